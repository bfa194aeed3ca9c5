/-! the grid: double loops, cells, the picture -/
theorem lpD {β : Type} (Fo : Nat → Nat → β → Prop) (Fi : Nat → Nat → Nat → Nat → β → Prop) (I : Nat → Nat → β → Prop) (X0 W H M : Nat) (hX : X0 ≤ W) (hM : W < M) (he : ∀ n b, I H X0 b → Fo (n + 1) H b) (ho : ∀ n y b, y < H → I y X0 b → Fi n y M X0 b → Fo (n + 1) y b) (hx : ∀ n y m b, y < H → I y W b → (∀ b', I (y + 1) X0 b' → Fo n (y + 1) b') → Fi n y (m + 1) W b) (hi : ∀ n y m x b, y < H → X0 ≤ x → x < W → I y x b → (∀ b', I y (x + 1) b' → Fi n y m (x + 1) b') → Fi n y (m + 1) x b) : ∀ y n b, y ≤ H → H - y < n → I y X0 b → Fo n y b := by
  refine fun y n b h1 h2 h3 => lpU Fo (fun y b => I y X0 b) H (fun n b h => he n b h) (fun n y b hy hb ih => ?_) y n b h1 h2 h3
  refine ho n y b hy hb ?_
  exact lpU (fun m x b => Fi n y m x b) (fun x b => X0 ≤ x ∧ I y x b) W (fun m b h => hx n y m b hy h.2 ih) (fun m x b hxW hb' ih2 => hi n y m x b hy hb'.1 hxW hb'.2 (fun b' h => ih2 b' ⟨by omega, h⟩)) X0 M b hX (by omega) ⟨Nat.le_refl _, hb⟩
theorem nI_m12 (y : Nat) : nI y * 12 = nI (12 * y) := by
  have : nI y * nI 12 = nI (y * 12) := (Int32.ofNat_mul y 12).symm
  rw [Nat.mul_comm] at this
  exact this
theorem nI_12m (y : Nat) : 12 * nI y = nI (12 * y) := (Int32.ofNat_mul 12 y).symm
theorem xy_I (x y : Nat) : nI y * 12 + nI x = nI (12 * y + x) := by rw [nI_m12, nI_add]
theorem yx_I (x y : Nat) : 12 * nI y + nI x = nI (12 * y + x) := by rw [nI_12m, nI_add]
theorem has_n {W H x y : Nat} (hW : W ≤ 12) (hH : H ≤ 12) (hx : x < 2 ^ 31) (hy : y < 2 ^ 31) : hasB (nI W) (nI H) (nI x) (nI y) = decide (x < W ∧ y < H) := by
  unfold hasB
  rw [nI_I hx, nI_I hy, nI_I (by omega), nI_I (by omega)]
  by_cases h : x < W ∧ y < H
  · rw [decide_eq_true h, decide_eq_true (by omega)]
  · rw [decide_eq_false h, decide_eq_false (by omega)]
theorem has_ex {W H : Nat} {a b : Int32} (hW : W ≤ 12) (hH : H ≤ 12) (h : hasB (nI W) (nI H) a b = true) : ∃ x y, x < W ∧ y < H ∧ a = nI x ∧ b = nI y := by
  have h2 := of_decide_eq_true h
  rw [nI_I (by omega), nI_I (by omega)] at h2
  refine ⟨a.toInt.toNat, b.toInt.toNat, by omega, by omega, ?_, ?_⟩
  · rw [eq_I, nI_I (by omega)]; omega
  · rw [eq_I, nI_I (by omega)]; omega
theorem has_t {W H x y : Nat} (hW : W ≤ 12) (hH : H ≤ 12) (hx : x < W) (hy : y < H) : hasB (nI W) (nI H) (nI x) (nI y) = true := by
  rw [has_n hW hH (by omega) (by omega)]; exact decide_eq_true ⟨hx, hy⟩
def hol (v : Int32) : Bool := decide (v = 0 ∨ v = 3 ∨ v = 4)
/-- both hollow, beside each other, in rows m and above -/
def edg (W H : Nat) (S : Nat → Int32) (m k l : Nat) : Prop := ∃ x y, x < W ∧ y < H ∧ m ≤ y ∧ k = 12 * y + x ∧ hol (S k) = true ∧ hol (S l) = true ∧ ((l = k + 1 ∧ x + 1 < W) ∨ (l = k + 12 ∧ y + 1 < H))
def Cs (W H : Nat) (S : Nat → Int32) (m a b : Nat) : Prop := ∀ F : Nat → Prop, (∀ k l, edg W H S m k l → (F k ↔ F l)) → (F a ↔ F b)
def sdl (W H : Nat) (S : Nat → Int32) (m : Nat) (v : Int32) (c : Nat) : Prop := ∃ x y, x < W ∧ y < H ∧ m ≤ y ∧ c = 12 * y + x ∧ S c = v
def Gt (W H : Nat) (S : Nat → Int32) (m : Nat) (v : Int32) (k : Nat) : Prop := ∃ c, sdl W H S m v c ∧ Cs W H S m c k
noncomputable def pb (P : Prop) : Bool := @decide P (Classical.propDecidable P)
theorem pb_t {P : Prop} : pb P = true ↔ P := by unfold pb; exact @decide_eq_true_iff P (Classical.propDecidable P)
theorem pb_f {P : Prop} : pb P = false ↔ ¬ P := by
  have h := @pb_t P
  cases hp : pb P
  · rw [hp] at h; simp at h; simp [h]
  · rw [hp] at h; simp at h; simp [h]
noncomputable def pourB (W H : Nat) (S : Nat → Int32) (x y : Nat) : Int32 := if S (12 * y + x) = 2 then 1 else if hol (S (12 * y + x)) = true then (if pb (Gt W H S 0 3 (12 * y + x)) = true then (if pb (Gt W H S y 3 (12 * y + x) ∨ Gt W H S y 4 (12 * y + x)) = true then 1 else 3) else 2) else 0
noncomputable def fateB (W H : Nat) (S rep : Nat → Int32) (x y : Nat) : Int32 := if rep (12 * y + x) = 0 then pourB W H S x y else 5
def cnt (r : Nat → Int32) : Nat → Nat
  | 0 => 0
  | n + 1 => cnt r n + if r n = 0 then 0 else 1
theorem cnt_0 {r : Nat → Int32} {n : Nat} (h : ∀ k, k < n → r k = 0) : cnt r n = 0 := by
  induction n with
  | zero => rfl
  | succ n ih => rw [cnt, ih (fun k hk => h k (by omega)), h n (by omega)]; rfl
theorem cnt_le (r : Nat → Int32) (n : Nat) : cnt r n ≤ n := by
  induction n with
  | zero => exact Nat.le_refl 0
  | succ n ih => rw [cnt]; split <;> omega
theorem cnt_cong {r r' : Nat → Int32} {n : Nat} (h : ∀ k, k < n → r k = r' k) : cnt r n = cnt r' n := by
  induction n with
  | zero => rfl
  | succ n ih => rw [cnt, cnt, ih (fun k hk => h k (by omega)), h n (by omega)]
theorem cnt_up {r : Nat → Int32} {k n : Nat} {v : Int32} (hk : k < n) (h0 : r k = 0) (hv : v ≠ 0) : cnt (upd r k v) n = cnt r n + 1 := by
  induction n with
  | zero => omega
  | succ n ih =>
    by_cases h : k = n
    · subst h
      rw [cnt, cnt, upd_at, if_neg hv, h0, if_pos rfl, cnt_cong (r := upd r k v) (r' := r) (fun j hj => upd_ne _ _ (by omega))]
    · rw [cnt, cnt, ih (by omega), upd_ne _ _ (show n ≠ k by omega)]; omega
theorem cnt_lt {r : Nat → Int32} {k n : Nat} (hk : k < n) (h0 : r k = 0) : cnt r n < n := by
  have := cnt_up (v := 1) hk h0 (by decide)
  have := cnt_le (upd r k 1) n
  omega
def gIC (W H : Nat) (S rep fates : Nat → Int32) (e9 e6 rc : Int32) : Prop := (∀ k, k < 144 → rep k = 0 ∨ rep k = 1) ∧ (∀ k, k < 144 → rep k ≠ 0 → ∃ x y, x < W ∧ y < H ∧ k = 12 * y + x) ∧ rc = nI (cnt rep 144) ∧ ((e9 = e6 ∧ ∀ x y, x < W → y < H → fates (12 * y + x) = fateB W H S rep x y) ∨ (e9.toInt < e6.toInt ∧ ∀ k, k < 144 → rep k = 0))
abbrev gSP : Type := Nat → Nat → (Nat → Int32) → Int32 → Int32 → (Nat → Int32) → (Nat → Int32) → Prop
def GCg (SP : gSP) : gGC := fun n gS fS gT fT => ∃ W H e : Nat, (2 ≤ W ∧ W ≤ 12 ∧ 2 ≤ H ∧ H ≤ 12) ∧ (gS 4 = nI W ∧ gS 5 = nI H ∧ gT 2 = nI W ∧ gT 3 = nI H) ∧ (∀ k, k < 144 → fT 1 k = fS 13 k ∧ isSortB (fS 13 k) = true) ∧ (e ≤ n ∧ gS 6 = nI e) ∧ gIC W H (fS 13) (fT 2) (fS 14) (gS 9) (gS 6) (gT 6) ∧ ((gS 12 = gS 6 ∧ SP W H (fS 13) (gS 10) (gS 11) (fS 18) (fS 19)) ∨ (gS 12).toInt < (gS 6).toInt) ∧ (fS 39 0 = 0 ∧ fS 40 0 = 0 ∧ fS 41 0 = 0 ∧ fS 42 0 = 0)
theorem GCg_ok (SP : gSP) : GCok (GCg SP) := by
  refine ⟨?_, ?_, ?_⟩
  · rintro n gS fS gT fT ⟨W, H, e, h1, h2, h3, ⟨h4, h5⟩, h6, h7⟩
    exact ⟨W, H, e, h1, h2, h3, ⟨by omega, h5⟩, h6, h7⟩
  · rintro n gS fS gT fT gS' fS' gT' fT' ⟨a1, a2, a3, a4, a5, a6, a7⟩ ⟨b1, b2, b3, b4, b5, b6, b7, b8⟩ ⟨c1, c2, c3⟩ ⟨d1, d2⟩ ⟨W, H, e, h1, h2, h3, h4, h6, h7⟩
    refine ⟨W, H, e, h1, ?_, ?_, ?_, ?_, ?_⟩
    · rw [a1, a2, c1, c2]; exact h2
    · rw [d1, b1]; exact h3
    · rw [a3]; exact h4
    · rw [b1, d2, b2, a4, a3, c3]; exact h6
    · rw [a7, a3, b1, a5, a6, b3, b4, b5, b6, b7, b8]; exact h7
  · rintro n gS fS gT fT ⟨W, H, e, h1, ⟨h2, h3, h4, h5⟩, -⟩
    exact ⟨h4.trans h2.symm, h5.trans h3.symm⟩
/-- all but the grid's part is carried over -/
theorem inv_tr {GC : gGC} {n n' : Nat} {gS gS' gT gT' : gFG} {fS fS' fT fT' : gFF} {w w' : Int64} (hI : InvP GC n gS fS gT fT w) (e1 : ∀ j, j = 0 ∨ j = 2 ∨ j = 3 ∨ j = 13 ∨ j = 18 ∨ j = 21 ∨ j = 22 ∨ j = 23 ∨ j = 24 → gS' j = gS j) (e2 : ∀ j, (20 ≤ j ∧ j ≤ 23) ∨ j = 29 ∨ 43 ≤ j → fS' j = fS j) (e3 : ∀ j, j = 15 ∨ j = 21 ∨ j = 24 ∨ j = 31 ∨ j = 36 ∨ j = 38 ∨ j = 40 → gT' j = gT j) (e4 : ∀ j, (9 ≤ j ∧ j ≤ 13) ∨ 16 ≤ j → fT' j = fT j) (e5 : gT' 1 = gS' 1) (hG : GC n' gS' fS' gT' fT') : InvP GC n' gS' fS' gT' fT' w' := by
  obtain ⟨i1, i2, i3, i4, i5, ⟨j6, j7⟩, i8⟩ := hI
  refine ⟨?_, ?_, ?_, ?_, ?_, ⟨e5, ?_⟩, hG⟩
  · rw [e1 13 (by omega), e3 15 (by omega), e2 20 (by omega), e2 21 (by omega), e2 22 (by omega), e2 23 (by omega), e4 9 (by omega), e4 10 (by omega), e4 11 (by omega), e4 12 (by omega)]; exact i1
  · rw [e1 13 (by omega), e3 21 (by omega), e2 43 (by omega), e2 29 (by omega), e4 13 (by omega)]; exact i2
  · rw [e1 18 (by omega), e3 31 (by omega), e2 44 (by omega), e4 20 (by omega)]; exact i3
  · rw [e1 2 (by omega), e1 3 (by omega), e1 23 (by omega), e1 24 (by omega), e2 45 (by omega), e2 46 (by omega), e2 47 (by omega), e2 48 (by omega), e2 49 (by omega), e2 50 (by omega), e3 24 (by omega), e4 16 (by omega), e4 17 (by omega), e4 18 (by omega)]; exact i4
  · rw [e1 21 (by omega), e1 22 (by omega), e3 38 (by omega), e3 40 (by omega), e2 51 (by omega), e2 52 (by omega), e2 53 (by omega), e2 54 (by omega), e4 21 (by omega), e4 22 (by omega), e4 23 (by omega), e4 24 (by omega)]; exact i5
  · rw [e3 36 (by omega), e1 0 (by omega)]; exact j7
/-- a fresh drawing: what was worked out is out of date -/
theorem gc_new {SP : gSP} {n : Nat} {gS gS' gT gT' : gFG} {fS fS' fT fT' : gFF} (hc : GCg SP n gS fS gT fT) (hn : n < 512) {W H : Nat} (hWH : 2 ≤ W ∧ W ≤ 12 ∧ 2 ≤ H ∧ H ≤ 12) (hs : gS' 4 = nI W ∧ gS' 5 = nI H ∧ gT' 2 = nI W ∧ gT' 3 = nI H) (hS : ∀ k, k < 144 → fT' 1 k = fS' 13 k ∧ isSortB (fS' 13 k) = true) (h6 : gS' 6 = gS 6 + 1) (h9 : gS' 9 = gS 9) (h12 : gS' 12 = gS 12) (hr : ∀ k, k < 144 → fT' 2 k = 0) (hc6 : gT' 6 = 0) (hz : fS' 39 = fS 39 ∧ fS' 40 = fS 40 ∧ fS' 41 = fS 41 ∧ fS' 42 = fS 42) : GCg SP (n + 1) gS' fS' gT' fT' := by
  obtain ⟨W0, H0, e, -, -, -, ⟨h4, h5⟩, ⟨-, -, -, h8⟩, h7, hZ0⟩ := hc
  have e6 : gS' 6 = nI (e + 1) := by rw [h6, h5, nI_1]
  have l9 : (gS 9).toInt ≤ (gS 6).toInt := by
    rcases h8 with ⟨q, -⟩ | ⟨q, -⟩
    · rw [q]; omega
    · omega
  have l12 : (gS 12).toInt ≤ (gS 6).toInt := by
    rcases h7 with ⟨q, -⟩ | q
    · rw [q]; omega
    · omega
  rw [h5, nI_I (by omega)] at l9 l12
  refine ⟨W, H, e + 1, hWH, hs, hS, ⟨by omega, e6⟩, ⟨fun k hk => Or.inl (hr k hk), fun k hk q => absurd (hr k hk) q, ?_, Or.inr ⟨?_, hr⟩⟩, Or.inr ?_, ?_⟩
  · rw [hc6, cnt_0 hr]; rfl
  · rw [h9, e6, nI_I (by omega)]; omega
  · rw [h12, e6, nI_I (by omega)]; omega
  · rw [hz.1, hz.2.1, hz.2.2.1, hz.2.2.2]; exact hZ0
theorem q_forget {N : Nat} {g : gFG} {f : gFF} {w : Int64} {Q : gFG → gFF → Int64 → Prop} (hN : 1000 ≤ N) (h : Q (va_up g 6 0) (va_up f 2 (fz (f 2) 0 144)) w) : wX12_forget N g f w Q := by
  unfold wX12_forget
  simp only [forall_eq]
  have hh := lpU (β := Unit) (fun n x _ => wX12_forget_l7 N Q n (nI x) (va_up g 6 0) (va_up f 2 (fz (f 2) 0 x)) w) (fun _ _ => True) 144 ?_ ?_ 0 N () (by omega) (by omega) trivial
  · rw [fz_0, up_id] at hh; exact hh
  · intro n b _
    unfold wX12_forget_l7
    exact ⟨fun _ => h, fun c => absurd (nI_le (Nat.le_refl 144) (by decide)) c⟩
  · intro n x b hx _ ih
    unfold wX12_forget_l7
    refine ⟨fun c => absurd c (nI_ge hx (by decide)), fun _ => ⟨vp_in_nI hx (by decide), ?_⟩⟩
    simp only [forall_eq, nI_1, nI_clamp (show x < 2 ^ 31 by omega), up_s, up_up, fz_s]
    exact ih () trivial
theorem q_size51 {N : Nat} {g : gFG} {f : gFF} {w : Int64} {Q : Int32 → gFG → gFF → Int64 → Prop} (hN : 1000 ≤ N) (h : wX12_forget N g (va_up f 1 (fz (f 1) 0 144)) w (fun g72 f72 w72 => wX12_told N 0 g72 f72 w72 Q)) : wX12_size_l51 N Q N 0 g f w := by
  have hh := lpU (β := Unit) (fun n x _ => wX12_size_l51 N Q n (nI x) g (va_up f 1 (fz (f 1) 0 x)) w) (fun _ _ => True) 144 ?_ ?_ 0 N () (by omega) (by omega) trivial
  · rw [fz_0, up_id] at hh; exact hh
  · intro n b _
    unfold wX12_size_l51
    exact ⟨fun _ => h, fun c => absurd (nI_le (Nat.le_refl 144) (by decide)) c⟩
  · intro n x b hx _ ih
    unfold wX12_size_l51
    refine ⟨fun c => absurd c (nI_ge hx (by decide)), fun _ => ⟨vp_in_nI hx (by decide), ?_⟩⟩
    simp only [forall_eq, nI_1, nI_clamp (show x < 2 ^ 31 by omega), up_s, up_up, fz_s]
    exact ih () trivial
theorem inv_st {SP : gSP} {n : Nat} {gS gT : gFG} {fS fT : gFF} {w : Int64} (hI : InvP (GCg SP) n gS fS gT fT w) (x : Int32) : InvP (GCg SP) (n + 1) (va_up gS 1 x) fS (va_up (va_up gT 0 0) 1 x) fT w := by
  refine inv_tr hI (fun j hj => up_n _ _ (by omega)) (fun j hj => rfl) (fun j hj => (up_n _ _ (by omega)).trans (up_n _ _ (by omega))) (fun j hj => rfl) (by rw [up_s, up_s]) ?_
  exact GCk (GCg_ok SP) hI.2.2.2.2.2.2 ⟨rfl, rfl, rfl, rfl, rfl, rfl, rfl⟩ ⟨rfl, rfl, rfl, rfl, rfl, rfl, rfl, rfl⟩ ⟨rfl, rfl, rfl⟩ ⟨rfl, rfl⟩
theorem z_2 : (2 : Int32).toInt = 2 := rfl
theorem ok_size (SP : gSP) {N : Nat} (hN : 1000 ≤ N) : ls_size N (InvP (GCg SP)) := by
  intro n a b gS fS gT fT wT hn hI
  have hst := inv_st hI
  have hc := hI.2.2.2.2.2.2
  simp only [wX11_size, wX11_size_j22, wX12_size, wX12_size_j33, forall_eq, q_in, q_told, q_answered, br1, br2, bi_0, lt_I, le_I, l_I, z_2, z_12, show (2 : Int64).toInt = 2 from rfl, show (12 : Int64).toInt = 12 from rfl]
  by_cases h1 : 2 ≤ a.toInt ∧ a.toInt ≤ 12
  · have h1a : ¬ a.toInt < 2 := by omega
    have h1b : ¬ 12 < a.toInt := by omega
    by_cases h2 : 2 ≤ b.toInt ∧ b.toInt ≤ 12
    · have h2a : ¬ b.toInt < 2 := by omega
      simp only [h1, h1a, h1b, h2, h2a, decide_true, if_true, if_false, true_and, and_self, Bool.true_eq_false, wX2_resize, forall_eq]
      refine q_fill hN (by decide) rfl (show lnC 13 = 144 from rfl) (by decide) ?_
      refine q_size51 hN (q_forget hN ?_)
      rw [q_told]
      refine ⟨rfl, inv_tr hI (fun j hj => ?_) (fun j hj => up_n _ _ (by omega)) (fun j hj => ?_) (fun j hj => (up_n _ _ (by omega)).trans (up_n _ _ (by omega))) (by rw [up_s, up_s]) ?_⟩
      · rw [up_n _ _ (by omega), up_n _ _ (by omega), up_n _ _ (by omega), up_n _ _ (by omega)]
      · rw [up_n _ _ (by omega), up_n _ _ (by omega), up_n _ _ (by omega), up_n _ _ (by omega), up_n _ _ (by omega)]
      · have ea : a = nI a.toInt.toNat := by rw [eq_I, nI_I (by omega)]; omega
        have eb : b = nI b.toInt.toNat := by rw [eq_I, nI_I (by omega)]; omega
        refine gc_new hc hn (W := a.toInt.toNat) (H := b.toInt.toNat) (by omega) ⟨ea, eb, ea, eb⟩ (fun k hk => ?_) rfl rfl rfl (fun k hk => ?_) rfl ⟨rfl, rfl, rfl, rfl⟩
        · show fz (fT 1) 0 144 k = fz (fS 13) 0 144 k ∧ isSortB (fz (fS 13) 0 144 k) = true
          simp only [fz, if_pos hk]
          exact ⟨trivial, by decide⟩
        · show fz (fT 2) 0 144 k = 0
          simp only [fz, if_pos hk]
    · by_cases h2a : b.toInt < 2
      · simp [h1, h1a, h1b, h2, h2a, hst]
      · have h2b : ¬ b.toInt ≤ 12 := by omega
        simp [h1, h1a, h1b, h2a, h2b, hst]
  · by_cases h1a : a.toInt < 2
    · simp [h1, h1a, hst]
    · have h1b : 12 < a.toInt := by omega
      simp [h1, h1a, h1b, hst]
/-- painted so far -/
def pn (m : Nat → Int32) (v : Int32) (x0 y0 u yy xx : Nat) : Nat → Int32 := fun k => if x0 ≤ k % 12 ∧ k % 12 ≤ u ∧ y0 ≤ k / 12 ∧ (k / 12 < yy ∨ (k / 12 = yy ∧ k % 12 < xx)) then v else m k
theorem pn_0 (m : Nat → Int32) (v : Int32) (x0 y0 u : Nat) : pn m v x0 y0 u y0 x0 = m := by
  funext k
  unfold pn
  rw [if_neg (by omega)]
theorem pn_s (m : Nat → Int32) (v : Int32) {x0 y0 u yy xx : Nat} (h1 : x0 ≤ xx) (h2 : xx ≤ u) (h3 : u < 12) (h4 : y0 ≤ yy) : upd (pn m v x0 y0 u yy xx) (12 * yy + xx) v = pn m v x0 y0 u yy (xx + 1) := by
  funext k
  by_cases h : k = 12 * yy + xx
  · subst h
    rw [upd_at]
    unfold pn
    rw [if_pos (by omega)]
  · rw [upd_ne _ _ h]
    unfold pn
    by_cases h5 : x0 ≤ k % 12 ∧ k % 12 ≤ u ∧ y0 ≤ k / 12 ∧ (k / 12 < yy ∨ (k / 12 = yy ∧ k % 12 < xx))
    · rw [if_pos h5, if_pos (by omega)]
    · rw [if_neg h5, if_neg (by omega)]
theorem pn_r (m : Nat → Int32) (v : Int32) {x0 y0 u yy : Nat} : pn m v x0 y0 u yy (u + 1) = pn m v x0 y0 u (yy + 1) x0 := by
  funext k
  unfold pn
  by_cases h5 : x0 ≤ k % 12 ∧ k % 12 ≤ u ∧ y0 ≤ k / 12 ∧ (k / 12 < yy ∨ (k / 12 = yy ∧ k % 12 < u + 1))
  · rw [if_pos h5, if_pos (by omega)]
  · rw [if_neg h5, if_neg (by omega)]
theorem rw_s {x0 y0 u yy : Nat} (h1 : x0 ≤ u) (h2 : y0 ≤ yy) : (yy - y0) * (u + 1 - x0) + (u + 1 - x0) = (yy + 1 - y0) * (u + 1 - x0) + (x0 - x0) := by
  rw [show yy + 1 - y0 = (yy - y0) + 1 by omega, Nat.succ_mul]; omega
theorem q_gfill {N x0 y0 u v : Nat} {s : Int32} {g : gFG} {f : gFF} {Q : Int32 → gFG → gFF → Prop} (hN : 1000 ≤ N) (hxu : x0 ≤ u) (hyv : y0 ≤ v) (hu : u < 12) (hv : v < 12) (h : Q (nI ((v + 1 - y0) * (u + 1 - x0) + (x0 - x0))) (va_up g 6 (g 6 + 1)) (va_up f 13 (pn (f 13) s x0 y0 u (v + 1) x0))) : wX2_fill_l27 N (nI x0) (nI u) (nI v) s Q N 0 (nI y0) g f := by
  have hh := lpD (β := Int32 × gFF) (fun n y b => wX2_fill_l27 N (nI x0) (nI u) (nI v) s Q n b.1 (nI y) g b.2) (fun n y m x b => wX2_fill_l37 N (nI x0) (nI u) (nI v) s (nI y) (wX2_fill_l27 N (nI x0) (nI u) (nI v) s Q n) Q m b.1 (nI x) g b.2) (fun y x b => y0 ≤ y ∧ b = (nI ((y - y0) * (u + 1 - x0) + (x - x0)), va_up f 13 (pn (f 13) s x0 y0 u y x))) x0 (u + 1) (v + 1) N (by omega) (by omega) ?_ ?_ ?_ ?_ y0 N (0, f) (by omega) (by omega) ⟨Nat.le_refl _, ?_⟩
  · exact hh
  · rintro n _ ⟨-, rfl⟩
    unfold wX2_fill_l27
    refine ⟨fun _ => ?_, fun c => absurd (nI_lt (Nat.lt_succ_self v) (by omega)) c⟩
    simp only [forall_eq]
    exact h
  · intro n y b hy hb hi
    unfold wX2_fill_l27
    exact ⟨fun c => absurd c (fun c => by rw [nI_ltI (by omega) (by omega)] at c; omega), fun _ => hi⟩
  · rintro n y m _ hy ⟨hy0, rfl⟩ ih
    unfold wX2_fill_l37
    refine ⟨fun _ => ?_, fun c => absurd (nI_lt (Nat.lt_succ_self u) (by omega)) c⟩
    simp only [forall_eq, nI_1]
    refine ih (_, _) ⟨by omega, ?_⟩
    rw [rw_s hxu hy0, pn_r]
    rfl
  · rintro n y m x _ hy hx0 hx ⟨hy0, rfl⟩ ih
    unfold wX2_fill_l37
    refine ⟨fun c => absurd c (fun c => by rw [nI_ltI (by omega) (by omega)] at c; omega), fun _ => ?_⟩
    simp only [forall_eq, xy_I, nI_1, nI_clamp (show 12 * y + x < 2 ^ 31 by omega), up_s, up_up]
    refine ⟨vp_in_nI (by omega) (by decide), ?_⟩
    refine ih (_, _) ⟨hy0, ?_⟩
    rw [pn_s _ _ hx0 (by omega) hu hy0, show x + 1 - x0 = x - x0 + 1 by omega]
    rfl
  · rw [pn_0, up_id, Nat.sub_self, Nat.sub_self, Nat.zero_mul]; rfl
theorem q_draw82 {N x0 y0 u v : Nat} {s : Int32} {g : gFG} {f : gFF} {w : Int64} {Q : Int32 → gFG → gFF → Int64 → Prop} (hN : 1000 ≤ N) (hxu : x0 ≤ u) (hyv : y0 ≤ v) (hu : u < 12) (hv : v < 12) (h : wX12_forget N g (va_up f 1 (pn (f 1) s x0 y0 u (v + 1) x0)) w (fun g129 f129 w129 => wX12_told N (nI ((v + 1 - y0) * (u + 1 - x0) + (x0 - x0))) g129 f129 w129 Q)) : wX12_draw_l82 N (nI x0) (nI u) (nI v) s Q N 0 (nI y0) g f w := by
  have hh := lpD (β := Int32 × gFF) (fun n y b => wX12_draw_l82 N (nI x0) (nI u) (nI v) s Q n b.1 (nI y) g b.2 w) (fun n y m x b => wX12_draw_l92 N (nI x0) (nI u) (nI v) s (nI y) (wX12_draw_l82 N (nI x0) (nI u) (nI v) s Q n) Q m b.1 (nI x) g b.2 w) (fun y x b => y0 ≤ y ∧ b = (nI ((y - y0) * (u + 1 - x0) + (x - x0)), va_up f 1 (pn (f 1) s x0 y0 u y x))) x0 (u + 1) (v + 1) N (by omega) (by omega) ?_ ?_ ?_ ?_ y0 N (0, f) (by omega) (by omega) ⟨Nat.le_refl _, ?_⟩
  · exact hh
  · rintro n _ ⟨-, rfl⟩
    unfold wX12_draw_l82
    exact ⟨fun _ => h, fun c => absurd (nI_lt (Nat.lt_succ_self v) (by omega)) c⟩
  · intro n y b hy hb hi
    unfold wX12_draw_l82
    exact ⟨fun c => absurd c (fun c => by rw [nI_ltI (by omega) (by omega)] at c; omega), fun _ => hi⟩
  · rintro n y m _ hy ⟨hy0, rfl⟩ ih
    unfold wX12_draw_l92
    refine ⟨fun _ => ?_, fun c => absurd (nI_lt (Nat.lt_succ_self u) (by omega)) c⟩
    simp only [forall_eq, nI_1]
    refine ih (_, _) ⟨by omega, ?_⟩
    rw [rw_s hxu hy0, pn_r]
    rfl
  · rintro n y m x _ hy hx0 hx ⟨hy0, rfl⟩ ih
    unfold wX12_draw_l92
    refine ⟨fun c => absurd c (fun c => by rw [nI_ltI (by omega) (by omega)] at c; omega), fun _ => ?_⟩
    simp only [forall_eq, yx_I, nI_1, nI_clamp (show 12 * y + x < 2 ^ 31 by omega), up_s, up_up]
    refine ⟨vp_in_nI (by omega) (by decide), ?_⟩
    refine ih (_, _) ⟨hy0, ?_⟩
    rw [pn_s _ _ hx0 (by omega) hu hy0, show x + 1 - x0 = x - x0 + 1 by omega]
    rfl
  · rw [pn_0, up_id, Nat.sub_self, Nat.sub_self, Nat.zero_mul]; rfl
theorem ok_draw (SP : gSP) {N : Nat} (hN : 1000 ≤ N) : ls_draw N (InvP (GCg SP)) := by
  intro n a b c d s gS fS gT fT wT hn hI
  have hst := inv_st hI
  have hc := hI.2.2.2.2.2.2
  obtain ⟨W, H, e, hWH, ⟨s4, s5, t2, t3⟩, hS, -⟩ := id hc
  have t2' : (va_up gT 0 0) 2 = nI W := t2
  have t3' : (va_up gT 0 0) 3 = nI H := t3
  simp only [wX11_draw, wX11_draw_j19, wX11_draw_j50, wX12_draw, wX12_draw_j33, wX12_draw_j44, wX12_draw_j69, forall_eq, q_isSort, q_has, q_isCell, q_in, q_told, q_answered, br1, br2, bi_0, l_I, z0L, show (4 : Int64).toInt = 4 from rfl, show (10 : Int64).toInt = 10 from rfl, show (17 : Int64).toInt = 17 from rfl, s4, s5, t2', t3']
  by_cases h1 : isSortB s = true
  · have h1' := of_decide_eq_true h1
    have e2 : ∀ P R : Prop, (if decide (0 ≤ s.toInt ∧ s.toInt ≤ 4) = false then (if decide (10 ≤ s.toInt ∧ s.toInt ≤ 17) = false then R else P) else P) = P := by
      intro P R
      by_cases q : 0 ≤ s.toInt ∧ s.toInt ≤ 4
      · rw [decide_eq_true q]; rfl
      · rw [decide_eq_false q, decide_eq_true (show 10 ≤ s.toInt ∧ s.toInt ≤ 17 by omega)]; rfl
    simp only [e2, h1, Bool.true_eq_false, if_false]
    by_cases h2 : c < a
    · simp only [if_pos h2]; exact ⟨trivial, hst _⟩
    simp only [if_neg h2]
    by_cases h3 : b ≤ d
    · simp only [if_pos h3]
      cases h4 : hasB (nI W) (nI H) a b with
      | false => simp [hst]
      | true =>
        cases h5 : hasB (nI W) (nI H) c d with
        | false => simp [hst]
        | true =>
          obtain ⟨x0, y0, q1, q2, rfl, rfl⟩ := has_ex hWH.2.1 hWH.2.2.2 h4
          obtain ⟨u, v, q3, q4, rfl, rfl⟩ := has_ex hWH.2.1 hWH.2.2.2 h5
          rw [nI_ltI (by omega) (by omega)] at h2
          rw [nI_leI (by omega) (by omega)] at h3
          simp only [Bool.true_eq_false, if_false, wX2_fill, q_has, s4, s5, h4, h5, br1, br2, bi_0]
          refine q_gfill hN (by omega) (by omega) (by omega) (by omega) ?_
          refine q_draw82 hN (by omega) (by omega) (by omega) (by omega) ?_
          refine q_forget hN ?_
          rw [q_told]
          refine ⟨rfl, inv_tr hI (fun j hj => ?_) (fun j hj => up_n _ _ (by omega)) (fun j hj => ?_) (fun j hj => (up_n _ _ (by omega)).trans (up_n _ _ (by omega))) (by rw [up_s, up_s]) ?_⟩
          · rw [up_n _ _ (by omega), up_n _ _ (by omega)]
          · rw [up_n _ _ (by omega), up_n _ _ (by omega), up_n _ _ (by omega)]
          · refine gc_new hc hn hWH ⟨s4, s5, t2, t3⟩ (fun k hk => ?_) rfl rfl rfl (fun k hk => ?_) rfl ⟨rfl, rfl, rfl, rfl⟩
            · show pn (fT 1) s x0 y0 u (v + 1) x0 k = pn (fS 13) s x0 y0 u (v + 1) x0 k ∧ isSortB (pn (fS 13) s x0 y0 u (v + 1) x0 k) = true
              unfold pn
              split
              · exact ⟨rfl, h1⟩
              · exact hS k hk
            · show fz (fT 2) 0 144 k = 0
              simp only [fz, if_pos hk]
    · simp only [if_neg h3]; exact ⟨trivial, hst _⟩
  · have h1' : isSortB s = false := by simpa using h1
    have h1'' := of_decide_eq_false h1'
    rw [h1', decide_eq_false (show ¬ (0 ≤ s.toInt ∧ s.toInt ≤ 4) by omega), decide_eq_false (show ¬ (10 ≤ s.toInt ∧ s.toInt ≤ 17) by omega)]
    simp [hst]
