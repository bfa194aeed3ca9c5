/-! what becomes of the cells: the model -/
theorem q_holM {N k : Nat} {g : gFG} {f : gFF} {w : Int64} {Q : Int32 → gFG → gFF → Int64 → Prop} (hk : k < 144) : wX12_isHollow N (nI k) g f w Q = Q (bi (hol (f 1 k))) g f w := by
  have hin : vp_in (nI k) 144 := vp_in_nI hk (by decide)
  simp only [wX12_isHollow, wX12_isHollow_j29, hin, true_and, nI_clamp (show k < 2 ^ 31 by omega), br1, br2, hol]
  by_cases c1 : f 1 k = 0
  · simp [c1, bi]
  · by_cases c2 : f 1 k = 3
    · simp [c2, bi]
    · by_cases c3 : f 1 k = 4
      · simp [c3, bi]
      · simp [c1, c2, c3, bi]
def sA (A : Nat → Int32) : Nat → Nat
  | 0 => 0
  | n + 1 => sA A n + (A n).toInt.toNat
theorem sA_cong {A B : Nat → Int32} {n : Nat} (h : ∀ k, k < n → A k = B k) : sA A n = sA B n := by
  induction n with
  | zero => rfl
  | succ n ih => rw [sA, sA, ih (fun k hk => h k (by omega)), h n (by omega)]
theorem sA_upd {A : Nat → Int32} {k n : Nat} {v : Int32} (hk : k < n) : sA (upd A k v) n + (A k).toInt.toNat = sA A n + v.toInt.toNat := by
  induction n with
  | zero => omega
  | succ n ih =>
    by_cases h : k = n
    · subst h
      rw [sA, sA, upd_at, sA_cong (A := upd A k v) (B := A) (fun j hj => upd_ne _ _ (by omega))]
      omega
    · rw [sA, sA, upd_ne _ _ (show n ≠ k by omega)]
      have := ih (by omega)
      omega
theorem sA_le {A : Nat → Int32} {n : Nat} (h : ∀ k, k < n → (A k).toInt.toNat ≤ 143) : sA A n ≤ 143 * n := by
  induction n with
  | zero => simp [sA]
  | succ n ih =>
    rw [sA]
    have := ih (fun k hk => h k (by omega))
    have := h n (by omega)
    omega
def JI (W H : Nat) (S : Nat → Int32) (m : Nat) (A : Nat → Int32) : Prop := ∀ k, k < 144 → ∃ j, j < 144 ∧ A k = nI j ∧ Cs W H S m k j
def JF (W H : Nat) (S : Nat → Int32) (m : Nat) (A : Nat → Int32) : Prop := JI W H S m A ∧ ∀ k l, edg W H S m k l → A k = A l
theorem JF_iff {W H m a b : Nat} {S A : Nat → Int32} (h : JF W H S m A) (ha : a < 144) (hb : b < 144) : A a = A b ↔ Cs W H S m a b := by
  constructor
  · intro e
    obtain ⟨j, j1, j2, j3⟩ := h.1 a ha
    obtain ⟨i, i1, i2, i3⟩ := h.1 b hb
    rw [j2, i2] at e
    have := nI_inj (by omega) (by omega) e
    subst this
    exact Cs_t j3 (Cs_s i3)
  · intro hC
    have := hC (fun k => A k = A a) (fun k l he => by rw [h.2 k l he])
    exact (this.mp rfl).symm
def JV (W H : Nat) (S : Nat → Int32) (m : Nat) (A0 : Nat → Int32) (P : Prop) (b : Bool) (A : Nat → Int32) : Prop := JI W H S m A ∧ ((b = false ∧ A = A0 ∧ P) ∨ (b = true ∧ sA A 144 < sA A0 144))
theorem q_melt {N W H m k l : Nat} {A0 A : Nat → Int32} {P : Prop} {bo : Bool} {g : gFG} {f : gFF} {w : Int64} {Q : Int32 → gFG → gFF → Int64 → Prop} (hk : k < 144) (hl : l < 144) (hkl : k ≠ l) (he : hol (f 1 k) = true → hol (f 1 l) = true → edg W H (f 1) m k l) (hJ : JV W H (f 1) m A0 P bo A) (h1 : ∀ A', JV W H (f 1) m A0 (P ∧ (edg W H (f 1) m k l → A0 k = A0 l)) true A' → Q 1 g (va_up f 4 A') w) (h0 : JV W H (f 1) m A0 (P ∧ (edg W H (f 1) m k l → A0 k = A0 l)) bo A → Q 0 g (va_up f 4 A) w) : wX12_melt N (nI k) (nI l) g (va_up f 4 A) w Q := by
  have f1 : (va_up f 4 A) 1 = f 1 := rfl
  have f4 : (va_up f 4 A) 4 = A := rfl
  have hin : vp_in (nI k) 144 := vp_in_nI hk (by decide)
  have hin2 : vp_in (nI l) 144 := vp_in_nI hl (by decide)
  obtain ⟨hI, hD⟩ := hJ
  have no : (edg W H (f 1) m k l → A k = A l) → JV W H (f 1) m A0 (P ∧ (edg W H (f 1) m k l → A0 k = A0 l)) bo A := by
    intro q
    refine ⟨hI, ?_⟩
    rcases hD with ⟨d1, d2, d3⟩ | ⟨d1, d2⟩
    · subst d2
      exact Or.inl ⟨d1, rfl, d3, q⟩
    · exact Or.inr ⟨d1, d2⟩
  simp only [wX12_melt, q_holM hk, q_holM hl, f1, f4, br1, br2, bi_0, hin, hin2, true_and, nI_clamp (show k < 2 ^ 31 by omega), nI_clamp (show l < 2 ^ 31 by omega), wX12_melt_j63, forall_eq, up_s, up_up]
  cases hh1 : hol (f 1 k) with
  | false =>
    rw [if_pos rfl]
    refine h0 (no (fun q => ?_))
    obtain ⟨-, -, -, -, -, -, q1, -⟩ := q
    rw [hh1] at q1; contradiction
  | true =>
    rw [if_neg (by decide)]
    cases hh2 : hol (f 1 l) with
    | false =>
      rw [if_pos rfl]
      refine h0 (no (fun q => ?_))
      obtain ⟨-, -, -, -, -, -, -, q1, -⟩ := q
      rw [hh2] at q1; contradiction
    | true =>
      rw [if_neg (by decide)]
      have hed := he hh1 hh2
      obtain ⟨i, i1, i2, i3⟩ := hI k hk
      obtain ⟨j, j1, j2, j3⟩ := hI l hl
      have step : ∀ t jt, jt < 144 → t = nI jt → Cs W H (f 1) m k jt → t.toInt.toNat + t.toInt.toNat < (A k).toInt.toNat + (A l).toInt.toNat → Q 1 g (va_up f 4 (upd (upd A k t) l t)) w := by
        intro t jt t1 t2 t3 t4
        refine h1 _ ⟨fun c hc => ?_, Or.inr ⟨rfl, ?_⟩⟩
        · by_cases e1 : c = l
          · subst e1
            exact ⟨jt, t1, by rw [upd_at]; exact t2, Cs_t (Cs_s (Cs_e hed)) t3⟩
          · by_cases e2 : c = k
            · subst e2
              exact ⟨jt, t1, by rw [upd_ne _ _ e1, upd_at]; exact t2, t3⟩
            · rw [upd_ne _ _ e1, upd_ne _ _ e2]
              exact hI c hc
        · have u1 := sA_upd (A := A) (v := t) hk
          have u2 := sA_upd (A := upd A k t) (v := t) hl
          rw [upd_ne _ _ hkl.symm] at u2
          have : sA A 144 ≤ sA A0 144 := by
            rcases hD with ⟨d1, d2, d3⟩ | ⟨d1, d2⟩
            · rw [d2]; exact Nat.le_refl _
            · omega
          omega
      by_cases ee : A k = A l
      · rw [if_pos ee]
        exact h0 (no (fun _ => ee))
      · rw [if_neg ee]
        have hne : i ≠ j := fun q => ee (by rw [i2, j2, q])
        rw [i2, j2]
        by_cases hle : nI j ≤ nI i
        · rw [if_pos hle]
          have hle' := (nI_leI (by omega) (by omega)).mp hle
          refine step (nI j) j j1 rfl (Cs_t (Cs_e hed) j3) ?_
          rw [i2, j2, nI_I (by omega), nI_I (by omega)]; omega
        · rw [if_neg hle]
          have hle' : ¬ j ≤ i := fun q => hle ((nI_leI (by omega) (by omega)).mpr q)
          refine step (nI i) i i1 rfl i3 ?_
          rw [i2, j2, nI_I (by omega), nI_I (by omega)]; omega
theorem q_pass {N W H m : Nat} {A0 : Nat → Int32} {g : gFG} {f : gFF} {w : Int64} {K24 : Int32 → gFG → gFF → Int64 → Prop} {Q : gFG → gFF → Int64 → Prop} (hN : 1000 ≤ N) (h2 : g 2 = nI W) (h3 : g 3 = nI H) (hW : W ≤ 12) (hH : H ≤ 12) (hm : m ≤ H) (hJ : JI W H (f 1) m A0) (h : ∀ bo A, JI W H (f 1) m A → ((bo = false ∧ A = A0 ∧ ∀ k l, edg W H (f 1) m k l → A0 k = A0 l) ∨ (bo = true ∧ sA A 144 < sA A0 144)) → K24 (bi bo) g (va_up f 4 A) w) : wX12_join_l32 N (nI m) K24 Q N 0 (nI m) g (va_up f 4 A0) w := by
  refine lpD (β := Bool × (Nat → Int32)) (fun fu y b => wX12_join_l32 N (nI m) K24 Q fu (bi b.1) (nI y) g (va_up f 4 b.2) w) (fun fu y mm x b => wX12_join_l43 N (nI m) (nI y) K24 (wX12_join_l32 N (nI m) K24 Q fu) Q mm (bi b.1) (nI x) g (va_up f 4 b.2) w) (fun y x b => m ≤ y ∧ JV W H (f 1) m A0 (∀ x' y' l, x' < W → (y' < y ∨ (y' = y ∧ x' < x)) → edg W H (f 1) m (12 * y' + x') l → A0 (12 * y' + x') = A0 l) b.1 b.2) 0 W H N (by omega) (by omega) ?_ ?_ ?_ ?_ m N (false, A0) hm (by omega) ⟨Nat.le_refl _, hJ, Or.inl ⟨rfl, rfl, ?_⟩⟩
  · rintro fu ⟨bo, A⟩ ⟨-, hI, hD⟩
    unfold wX12_join_l32
    rw [h3]
    refine ⟨fun _ => h bo A hI ?_, fun c => absurd (nI_le (Nat.le_refl H) (by omega)) c⟩
    rcases hD with ⟨d1, d2, d3⟩ | d
    · refine Or.inl ⟨d1, d2, fun k l he => ?_⟩
      obtain ⟨x, y, e1, e2, e3, rfl, -⟩ := id he
      exact d3 x y l e1 (Or.inl e2) he
    · exact Or.inr d
  · rintro fu y ⟨bo, A⟩ hy hb hi
    unfold wX12_join_l32
    rw [h3]
    exact ⟨fun c => absurd c (nI_ge hy (by omega)), fun _ => hi⟩
  · rintro fu y mm ⟨bo, A⟩ hy ⟨hm1, hI, hD⟩ ih
    unfold wX12_join_l43
    rw [h2]
    refine ⟨fun _ => ?_, fun c => absurd (nI_le (Nat.le_refl W) (by omega)) c⟩
    simp only [forall_eq, nI_1]
    refine ih (bo, A) ⟨by omega, hI, ?_⟩
    rcases hD with ⟨d1, d2, d3⟩ | d
    · exact Or.inl ⟨d1, d2, fun x' y' l q1 q2 q3 => d3 x' y' l q1 (by omega) q3⟩
    · exact Or.inr d
  · rintro fu y mm x ⟨bo, A⟩ hy _ hx ⟨hm1, hJV⟩ ih
    unfold wX12_join_l43
    simp only
    rw [h2]
    refine ⟨fun c => absurd c (nI_ge hx (by omega)), fun _ => ?_⟩
    simp only [forall_eq, yx_I, nI_1, nI_leI (show W < 2 ^ 31 by omega) (show x + 1 < 2 ^ 31 by omega)]
    -- behind both
    have fin : ∀ bo A, JV W H (f 1) m A0 (((∀ x' y' l, x' < W → (y' < y ∨ (y' = y ∧ x' < x)) → edg W H (f 1) m (12 * y' + x') l → A0 (12 * y' + x') = A0 l) ∧ (x + 1 < W → edg W H (f 1) m (12 * y + x) (12 * y + x + 1) → A0 (12 * y + x) = A0 (12 * y + x + 1))) ∧ (y + 1 < H → edg W H (f 1) m (12 * y + x) (12 * y + x + 12) → A0 (12 * y + x) = A0 (12 * y + x + 12))) bo A → wX12_join_l43 N (nI m) (nI y) K24 (wX12_join_l32 N (nI m) K24 Q fu) Q mm (bi bo) (nI (x + 1)) g (va_up f 4 A) w := by
      rintro bo A ⟨hI, hD⟩
      refine ih (bo, A) ⟨hm1, hI, ?_⟩
      rcases hD with ⟨d1, d2, ⟨d3, d4⟩, d5⟩ | d
      · refine Or.inl ⟨d1, d2, fun x' y' l q1 q2 q3 => ?_⟩
        by_cases e : y' = y ∧ x' = x
        · obtain ⟨rfl, rfl⟩ := e
          obtain ⟨u, v, e1, e2, e3, e4, e5, e6, e7⟩ := id q3
          have : u = x' ∧ v = y' := by omega
          obtain ⟨rfl, rfl⟩ := this
          rcases e7 with ⟨rfl, e8⟩ | ⟨rfl, e8⟩
          · exact d4 e8 q3
          · exact d5 e8 q3
        · exact d3 x' y' l q1 (by omega) q3
      · exact Or.inr d
    have j119 : ∀ bo A, JV W H (f 1) m A0 (((∀ x' y' l, x' < W → (y' < y ∨ (y' = y ∧ x' < x)) → edg W H (f 1) m (12 * y' + x') l → A0 (12 * y' + x') = A0 l) ∧ (x + 1 < W → edg W H (f 1) m (12 * y + x) (12 * y + x + 1) → A0 (12 * y + x) = A0 (12 * y + x + 1))) ∧ (y + 1 < H → edg W H (f 1) m (12 * y + x) (12 * y + x + 12) → A0 (12 * y + x) = A0 (12 * y + x + 12))) bo A → wX12_join_j119 N K24 (wX12_join_l32 N (nI m) K24 Q fu) (wX12_join_l43 N (nI m) (nI y) K24 (wX12_join_l32 N (nI m) K24 Q fu) Q mm) Q (nI m) (bi bo) (nI y) (nI x) g (va_up f 4 A) w := by
      intro bo A hb
      unfold wX12_join_j119 wX12_join_j123 wX12_join_j128
      simp only [forall_eq, nI_1]
      cases bo with
      | false => exact ⟨fun _ => fin false A hb, fun c => absurd rfl c⟩
      | true => exact ⟨fun c => absurd c (by decide), fun _ => fin true A hb⟩
    have j94 : ∀ bo A, JV W H (f 1) m A0 ((∀ x' y' l, x' < W → (y' < y ∨ (y' = y ∧ x' < x)) → edg W H (f 1) m (12 * y' + x') l → A0 (12 * y' + x') = A0 l) ∧ (x + 1 < W → edg W H (f 1) m (12 * y + x) (12 * y + x + 1) → A0 (12 * y + x) = A0 (12 * y + x + 1))) bo A → wX12_join_j94 N K24 (wX12_join_l32 N (nI m) K24 Q fu) (wX12_join_l43 N (nI m) (nI y) K24 (wX12_join_l32 N (nI m) K24 Q fu) Q mm) Q (nI m) (nI y) (nI x) (nI (12 * y + x)) (bi bo) g (va_up f 4 A) w := by
      intro bo A hb
      unfold wX12_join_j94
      rw [h3, nI_1, nI_leI (by omega) (by omega), show nI (12 * y + x) + 12 = nI (12 * y + x + 12) from nI_add _ 12]
      have imp : ∀ {P P' : Prop} {b A}, (P → P') → JV W H (f 1) m A0 P b A → JV W H (f 1) m A0 P' b A := by
        rintro P P' b A hp ⟨q1, ⟨q2, q3, q4⟩ | q⟩
        · exact ⟨q1, Or.inl ⟨q2, q3, hp q4⟩⟩
        · exact ⟨q1, Or.inr q⟩
      refine ⟨fun c => j119 bo A (imp (fun q => ⟨q, fun q2 => by omega⟩) hb), fun c => ?_⟩
      refine q_melt (by omega) (by omega) (by omega) (fun q1 q2 => ⟨x, y, hx, hy, hm1, rfl, q1, q2, Or.inr ⟨rfl, by omega⟩⟩) hb (fun A' hb' => ?_) (fun hb' => ?_)
      · refine ⟨fun _ => ?_, fun c => absurd c (by decide)⟩
        unfold wX12_join_j123 wX12_join_j128
        simp only [forall_eq, nI_1]
        exact fin true A' (imp (fun q => ⟨q.1, fun _ => q.2⟩) hb')
      · exact ⟨fun c => absurd rfl c, fun _ => j119 bo A (imp (fun q => ⟨q.1, fun _ => q.2⟩) hb')⟩
    have j85 : ∀ bo A, JV W H (f 1) m A0 ((∀ x' y' l, x' < W → (y' < y ∨ (y' = y ∧ x' < x)) → edg W H (f 1) m (12 * y' + x') l → A0 (12 * y' + x') = A0 l) ∧ (x + 1 < W → edg W H (f 1) m (12 * y + x) (12 * y + x + 1) → A0 (12 * y + x) = A0 (12 * y + x + 1))) bo A → wX12_join_j85 N K24 (wX12_join_l32 N (nI m) K24 Q fu) (wX12_join_l43 N (nI m) (nI y) K24 (wX12_join_l32 N (nI m) K24 Q fu) Q mm) Q (nI m) (bi bo) (nI y) (nI x) (nI (12 * y + x)) g (va_up f 4 A) w := by
      intro bo A hb
      unfold wX12_join_j85 wX12_join_j89
      cases bo with
      | false => exact ⟨fun _ => j94 false A hb, fun c => absurd rfl c⟩
      | true => exact ⟨fun c => absurd c (by decide), fun _ => j94 true A hb⟩
    have imp : ∀ {P P' : Prop} {b A}, (P → P') → JV W H (f 1) m A0 P b A → JV W H (f 1) m A0 P' b A := by
      rintro P P' b A hp ⟨q1, ⟨q2, q3, q4⟩ | q⟩
      · exact ⟨q1, Or.inl ⟨q2, q3, hp q4⟩⟩
      · exact ⟨q1, Or.inr q⟩
    refine ⟨fun c => j85 bo A (imp (fun q => ⟨q, fun q2 => by omega⟩) hJV), fun c => ?_⟩
    refine q_melt (by omega) (by omega) (by omega) (fun q1 q2 => ⟨x, y, hx, hy, hm1, rfl, q1, q2, Or.inl ⟨rfl, by omega⟩⟩) hJV (fun A' hb' => ?_) (fun hb' => ?_)
    · refine ⟨fun _ => ?_, fun c => absurd c (by decide)⟩
      unfold wX12_join_j89
      exact j94 true A' (imp (fun q => ⟨q.1, fun _ => q.2⟩) hb')
    · exact ⟨fun c => absurd rfl c, fun _ => j85 bo A (imp (fun q => ⟨q.1, fun _ => q.2⟩) hb')⟩
  · intro x' y' l q1 q2 q3
    obtain ⟨u, v, e1, e2, e3, e4, -⟩ := q3
    omega
theorem q_join {N W H m : Nat} {g : gFG} {f : gFF} {w : Int64} {Q : gFG → gFF → Int64 → Prop} (hN : 100000 ≤ N) (h2 : g 2 = nI W) (h3 : g 3 = nI H) (hW : W ≤ 12) (hH : H ≤ 12) (hm : m ≤ H) (h : ∀ A, JF W H (f 1) m A → Q g (va_up f 4 A) w) : wX12_join N (nI m) g f w Q := by
  have l24 : ∀ d fu bo A, JI W H (f 1) m A → (bo = false → ∀ k l, edg W H (f 1) m k l → A k = A l) → (bo = true → sA A 144 < d) → d < fu → wX12_join_l24 N (nI m) Q fu (bi bo) g (va_up f 4 A) w := by
    intro d
    induction d with
    | zero =>
      intro fu bo A hI hf ht hd
      obtain ⟨fu, rfl⟩ : ∃ k, fu = k + 1 := ⟨fu - 1, by omega⟩
      cases bo with
      | false =>
        unfold wX12_join_l24
        exact ⟨fun _ => h A ⟨hI, hf rfl⟩, fun c => absurd rfl c⟩
      | true => exact absurd (ht rfl) (by omega)
    | succ d ih =>
      intro fu bo A hI hf ht hd
      obtain ⟨fu, rfl⟩ : ∃ k, fu = k + 1 := ⟨fu - 1, by omega⟩
      unfold wX12_join_l24
      cases bo with
      | false => exact ⟨fun _ => h A ⟨hI, hf rfl⟩, fun c => absurd rfl c⟩
      | true =>
        refine ⟨fun c => absurd c (by decide), fun _ => ?_⟩
        refine q_pass (by omega) h2 h3 hW hH hm hI (fun bo' A' hI' hD => ?_)
        refine ih fu bo' A' hI' (fun e => ?_) (fun e => ?_) (by omega)
        · rcases hD with ⟨d1, d2, d3⟩ | ⟨d1, -⟩
          · rw [d2]; exact d3
          · rw [e] at d1; contradiction
        · rcases hD with ⟨d1, -⟩ | ⟨-, d2⟩
          · rw [e] at d1; contradiction
          · have := ht rfl
            omega
  unfold wX12_join
  have hh := lpU (β := Nat → Int32) (fun fu x A => wX12_join_l2 N (nI m) Q fu (nI x) g (va_up f 4 A) w) (fun x A => ∀ k, k < x → A k = nI k) 144 ?_ ?_ 0 N (f 4) (by omega) (by omega) (fun k hk => by omega)
  · rw [up_id] at hh; exact hh
  · intro fu A hA
    unfold wX12_join_l2
    refine ⟨fun _ => ?_, fun c => absurd (nI_le (Nat.le_refl 144) (by decide)) c⟩
    refine l24 30000 N true A (fun k hk => ⟨k, hk, hA k hk, Cs_r⟩) (fun e => by contradiction) (fun _ => ?_) (by omega)
    have := sA_le (A := A) (n := 144) (fun k hk => by rw [hA k hk, nI_I (by omega)]; omega)
    omega
  · intro fu x A hx hA ih
    unfold wX12_join_l2
    refine ⟨fun c => absurd c (nI_ge hx (by decide)), fun _ => ⟨vp_in_nI hx (by decide), ?_⟩⟩
    simp only [forall_eq, nI_1, nI_clamp (show x < 2 ^ 31 by omega), up_s, up_up]
    refine ih _ (fun k hk => ?_)
    by_cases e : k = x
    · rw [e, upd_at]
    · rw [upd_ne _ _ e]; exact hA k (by omega)
theorem q_hasM {N W H m k : Nat} {v : Int32} {g : gFG} {f : gFF} {w : Int64} {Q : Int32 → gFG → gFF → Int64 → Prop} (hN : 1000 ≤ N) (h2 : g 2 = nI W) (h3 : g 3 = nI H) (hW : W ≤ 12) (hH : H ≤ 12) (hm : m ≤ H) (hk : k < 144) (hJ : JF W H (f 1) m (f 4)) (h : Q (bi (pb (Gt W H (f 1) m v k))) g f w) : wX12_has N (nI k) (nI m) v g f w Q := by
  unfold wX12_has
  refine lpD (β := Bool) (fun fu y b => wX12_has_l6 N (nI k) v Q fu (bi b) (nI y) g f w) (fun fu y mm x b => wX12_has_l18 N (nI k) v (nI y) (wX12_has_l6 N (nI k) v Q fu) Q mm (bi b) (nI x) g f w) (fun y x b => m ≤ y ∧ (b = true ↔ ∃ x' y', x' < W ∧ y' < H ∧ m ≤ y' ∧ (y' < y ∨ (y' = y ∧ x' < x)) ∧ f 1 (12 * y' + x') = v ∧ f 4 (12 * y' + x') = f 4 k)) 0 W H N (by omega) (by omega) ?_ ?_ ?_ ?_ m N false hm (by omega) ⟨Nat.le_refl _, ⟨fun c => by contradiction, ?_⟩⟩
  · rintro fu b ⟨-, hb⟩
    unfold wX12_has_l6
    rw [h3]
    refine ⟨fun _ => ⟨gz_bi b, ?_⟩, fun c => absurd (nI_le (Nat.le_refl H) (by omega)) c⟩
    have e : b = pb (Gt W H (f 1) m v k) := by
      have : b = true ↔ pb (Gt W H (f 1) m v k) = true := by
        rw [pb_t, hb]
        constructor
        · rintro ⟨x', y', a1, a2, a3, a4, a5, a6⟩
          exact ⟨_, ⟨x', y', a1, a2, a3, rfl, a5⟩, (JF_iff hJ (by omega) hk).mp a6⟩
        · rintro ⟨c, ⟨x', y', a1, a2, a3, rfl, a5⟩, hC⟩
          exact ⟨x', y', a1, a2, a3, Or.inl a2, a5, (JF_iff hJ (by omega) hk).mpr hC⟩
      cases b <;> cases hp : pb (Gt W H (f 1) m v k) <;> simp_all
    rw [e]; exact h
  · rintro fu y b hy hb hi
    unfold wX12_has_l6
    rw [h3]
    exact ⟨fun c => absurd c (nI_ge hy (by omega)), fun _ => hi⟩
  · rintro fu y mm b hy ⟨hm1, hb⟩ ih
    unfold wX12_has_l18
    rw [h2]
    refine ⟨fun _ => ?_, fun c => absurd (nI_le (Nat.le_refl W) (by omega)) c⟩
    simp only [forall_eq, nI_1]
    refine ih b ⟨by omega, hb.trans ⟨?_, ?_⟩⟩
    · rintro ⟨x', y', a1, a2, a3, a4, a5⟩
      exact ⟨x', y', a1, a2, a3, by omega, a5⟩
    · rintro ⟨x', y', a1, a2, a3, a4, a5⟩
      exact ⟨x', y', a1, a2, a3, by omega, a5⟩
  · rintro fu y mm x b hy _ hx ⟨hm1, hb⟩ ih
    have hin : vp_in (nI (12 * y + x)) 144 := vp_in_nI (by omega) (by decide)
    have hin2 : vp_in (nI k) 144 := vp_in_nI hk (by decide)
    unfold wX12_has_l18
    rw [h2]
    refine ⟨fun c => absurd c (nI_ge hx (by omega)), fun _ => ?_⟩
    simp only [forall_eq, yx_I, nI_1, nI_clamp (show 12 * y + x < 2 ^ 31 by omega), nI_clamp (show k < 2 ^ 31 by omega), hin, hin2, true_and, wX12_has_j71, wX12_has_j75, wX12_has_j76, br1, br2, bi_0]
    have yes : (b = true ∨ (f 1 (12 * y + x) = v ∧ f 4 (12 * y + x) = f 4 k)) → wX12_has_l18 N (nI k) v (nI y) (wX12_has_l6 N (nI k) v Q fu) Q mm 1 (nI (x + 1)) g f w := by
      intro hc
      refine ih true ⟨hm1, ⟨fun _ => ?_, fun _ => rfl⟩⟩
      rcases hc with hc | ⟨c1, c2⟩
      · obtain ⟨x', y', a1, a2, a3, a4, a5⟩ := hb.mp hc
        exact ⟨x', y', a1, a2, a3, by omega, a5⟩
      · exact ⟨x, y, hx, hy, hm1, by omega, c1, c2⟩
    have no : b = false → ¬ (f 1 (12 * y + x) = v ∧ f 4 (12 * y + x) = f 4 k) → wX12_has_l18 N (nI k) v (nI y) (wX12_has_l6 N (nI k) v Q fu) Q mm 0 (nI (x + 1)) g f w := by
      intro hb0 hc
      refine ih false ⟨hm1, ⟨fun c => by contradiction, ?_⟩⟩
      rintro ⟨x', y', a1, a2, a3, a4, a5, a6⟩
      by_cases e : y' = y ∧ x' = x
      · obtain ⟨rfl, rfl⟩ := e
        exact absurd ⟨a5, a6⟩ hc
      · rw [hb.mpr ⟨x', y', a1, a2, a3, by omega, a5, a6⟩] at hb0
        contradiction
    cases b with
    | true => rw [if_neg (by decide)]; exact yes (Or.inl rfl)
    | false =>
      rw [if_pos rfl]
      by_cases c1 : f 1 (12 * y + x) = v
      · rw [if_pos c1]
        by_cases c2 : f 4 (12 * y + x) = f 4 k
        · rw [if_pos c2]; exact yes (Or.inr ⟨c1, c2⟩)
        · rw [if_neg c2]; exact no rfl (fun q => c2 q.2)
      · rw [if_neg c1]; exact no rfl (fun q => c1 q.1)
  · rintro ⟨x', y', a1, a2, a3, a4, a5⟩
    omega
