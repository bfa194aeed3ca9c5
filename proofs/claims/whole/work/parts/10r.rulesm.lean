/-! the model's text of rules -/
theorem cmp_0 (x y : Int64) : (lg_cmp x y = 0) = (x = y) := by
  unfold lg_cmp
  by_cases h1 : y < x
  · rw [if_pos h1]
    have h2 := Int64.lt_iff_toInt_lt.mp h1
    have h3 : ¬ x = y := fun q => by rw [q] at h2; omega
    simp [h3]
  · rw [if_neg h1]
    by_cases h3 : x = y
    · simp [h3]
    · simp [h3]
theorem semi {b : Nat → Int32} {t : Nat} {y : T3} (hT : Tk3 b t y) : isWt b y 13 = true ↔ (y.2.2 = 3 ∧ wot b y = 59) := by
  obtain ⟨p, t1, t2, t3, t4, t5, t6⟩ := hT
  have e0 : gsb.getD 13 [] = [59] := rfl
  have e1 : isWt b y 13 = true ↔ (y.2.1 = y.1 + 1 ∧ b y.1 = 59) := by
    unfold isWt isW
    rw [e0, decide_eq_true_iff]
    constructor
    · intro ⟨q1, q2⟩
      exact ⟨q1, q2 0 (by decide)⟩
    · intro ⟨q1, q2⟩
      refine ⟨q1, fun i hi => ?_⟩
      have : i = 0 := by simp at hi; omega
      subst this
      exact q2
  rw [e1]
  have e59 : (59 : Int32).toInt = 59 := rfl
  constructor
  · intro ⟨q1, q2⟩
    rcases t6 with ⟨z1, z2, z3⟩ | ⟨z1, z2, ⟨z3, z4, -⟩ | ⟨z3, z4, -⟩ | ⟨z3, -⟩⟩
    · omega
    · have := of_decide_eq_true (z4 y.1 (Nat.le_refl _) z2)
      rw [q2, e59] at this; omega
    · have := of_decide_eq_true (z4 y.1 (Nat.le_refl _) z2)
      rw [q2, e59] at this; omega
    · refine ⟨z3, ?_⟩
      unfold wot wor
      rw [if_pos z3, q2]; rfl
  · intro ⟨q1, q2⟩
    rcases t6 with ⟨z1, -⟩ | ⟨z1, z2, ⟨z3, -⟩ | ⟨z3, -⟩ | ⟨z3, z4, -⟩⟩
    · omega
    · omega
    · omega
    · refine ⟨z4, ?_⟩
      unfold wot wor at q2
      rw [if_pos q1] at q2
      rw [eq_I, e59, ← l_I, q2]; rfl
def bkM (b : Nat → Int32) (t : Nat) (gA : gFG) (fA : gFF) (i : Nat) (g : gFG) (f : gFF) : Prop := g 29 = nI i ∧ (∀ j, j ≠ 32 → j ≠ 33 → j ≠ 34 → j ≠ 29 → g j = gA j) ∧ (∀ j, j < i → f 19 (3 * j) = rlK b t j ∧ f 19 (3 * j + 1) = rlA b t j ∧ f 19 (3 * j + 2) = rlC b t j) ∧ (∀ j, j ≠ 19 → f j = fA j)
theorem bkM_tk {b : Nat → Int32} {t i : Nat} {gA g g' : gFG} {fA f : gFF} {x : T3} (h : bkM b t gA fA i g f) (ha : tkM g g' t x) : bkM b t gA fA i g' f :=
  ⟨(ha.2.2.2.2 _ (by decide) (by decide) (by decide)).trans h.1, fun j h1 h2 h3 h4 => (ha.2.2.2.2 j h1 h2 h3).trans (h.2.1 j h1 h2 h3 h4), h.2.2.1, h.2.2.2⟩
theorem nI_3 (i : Nat) : 3 * nI i = nI (3 * i) := (Int32.ofNat_mul 3 i).symm
theorem nI_p (i k : Nat) : nI i + nI k = nI (i + k) := nI_add i k
theorem q_126 {N t i : Nat} {kv a c : Int32} {b : Nat → Int32} {gA g : gFG} {fA f : gFF} {w : Int64} {Q : gFG → gFF → Int64 → Prop} (hi : i < 20) (h37 : gA 37 = 0) (hb : bkM b t gA fA i g f) (hk : kv = rlK b t i) (ha : a = rlA b t i) (hc : c = rlC b t i) (h : ∀ f', bkM b t gA fA (i + 1) (va_up g 29 (nI (i + 1))) f' → Q (va_up g 29 (nI (i + 1))) f' w) : wX12_readRule_j126 N Q kv a c g f w := by
  have g37 : g 37 = 0 := (hb.2.1 37 (by decide) (by decide) (by decide) (by decide)).trans h37
  unfold wX12_readRule_j126
  refine ⟨fun _ => ?_, fun c => absurd g37 c⟩
  rw [hb.1, nI_3]
  simp only [forall_eq, nI_1, show nI (3 * i) + 2 = nI (3 * i + 2) from nI_add _ 2, nI_clamp (show 3 * i < 2 ^ 31 by omega), nI_clamp (show 3 * i + 1 < 2 ^ 31 by omega), nI_clamp (show 3 * i + 2 < 2 ^ 31 by omega), up_s, up_up]
  refine ⟨vp_in_nI (by omega) (by decide), vp_in_nI (by omega) (by decide), vp_in_nI (by omega) (by decide), ?_⟩
  apply h
  refine ⟨up_s _ _ _, fun j h1 h2 h3 h4 => (up_n _ _ h4).trans (hb.2.1 j h1 h2 h3 h4), fun j hj => ?_, fun j h1 => (up_n _ _ h1).trans (hb.2.2.2 j h1)⟩
  rw [up_s]
  by_cases hji : j = i
  · subst hji
    rw [upd_ne _ _ (show 3 * j ≠ 3 * j + 2 by omega), upd_ne _ _ (show 3 * j ≠ 3 * j + 1 by omega), upd_at, upd_ne _ _ (show 3 * j + 1 ≠ 3 * j + 2 by omega), upd_at, upd_at]
    exact ⟨hk, ha, hc⟩
  · rw [upd_ne _ _ (show 3 * j ≠ 3 * i + 2 by omega), upd_ne _ _ (show 3 * j ≠ 3 * i + 1 by omega), upd_ne _ _ (show 3 * j ≠ 3 * i by omega), upd_ne _ _ (show 3 * j + 1 ≠ 3 * i + 2 by omega), upd_ne _ _ (show 3 * j + 1 ≠ 3 * i + 1 by omega), upd_ne _ _ (show 3 * j + 1 ≠ 3 * i by omega), upd_ne _ _ (show 3 * j + 2 ≠ 3 * i + 2 by omega), upd_ne _ _ (show 3 * j + 2 ≠ 3 * i + 1 by omega), upd_ne _ _ (show 3 * j + 2 ≠ 3 * i by omega)]
    exact hb.2.2.1 j (by omega)
/-- the fault found -/
def bkF (gA : gFG) (fA : gFF) (p : Nat) (g : gFG) (f : gFF) : Prop := g 37 = 1 ∧ g 36 = nI p ∧ (∀ j, j ≠ 32 → j ≠ 33 → j ≠ 34 → j ≠ 29 → j ≠ 37 → j ≠ 36 → g j = gA j) ∧ (∀ j, j ≠ 19 → f j = fA j)
theorem bkF_of {b : Nat → Int32} {t i : Nat} {gA g g' : gFG} {fA f : gFF} {x : T3} (h : bkM b t gA fA i g f) (ha : tkB g g' t x) : bkF gA fA x.1 g' f :=
  ⟨ha.1, ha.2.1, fun j h1 h2 h3 h4 h5 h6 => (ha.2.2 j h1 h2 h3 h5 h6).trans (h.2.1 j h1 h2 h3 h4), h.2.2.2⟩
theorem q_l40F {N n : Nat} {g : gFG} {f : gFF} {w : Int64} {Q : Int32 → gFG → gFF → Int64 → Prop} (h37 : g 37 = 1) (h : wX12_rules_j96 N Q g f w) : wX12_rules_l40 N Q (n + 1) g f w := by
  have h0 : ¬ g 37 = 0 := by rw [h37]; decide
  unfold wX12_rules_l40 wX12_rules_j77
  exact ⟨fun _ => ⟨fun _ => h, fun c => absurd c h0⟩, fun c => absurd c h0⟩
theorem q_rulesL {N t : Nat} {b : Nat → Int32} {gA : gFG} {fA : gFF} {Q : Int32 → gFG → gFF → Int64 → Prop} (hN : 1000 ≤ N) (ht : t ≤ 300) (hbt : ∀ i, i < t → fA 20 i = b i) (h37 : gA 37 = 0) (h31 : gA 31 = nI t) : ∀ (m i n : Nat) (g : gFG) (f : gFF), 20 - i = m → i ≤ 20 → m < n → bkM b t gA fA i g f → tkM g g t (tks b t i) → ((rd b t m i).1 = none → ∀ g' f' w', bkM b t gA fA (rd b t m i).2 g' f' → wX12_rules_j96 N Q g' f' w') → (∀ p, (rd b t m i).1 = some p → ∀ g' f' w', bkF gA fA p g' f' → wX12_rules_j96 N Q g' f' w') → wX12_readRule N g f (wot b (tks b t i)) (fun g f w => wX12_rules_l40 N Q n g f w) := by
  intro m
  induction m with
  | zero =>
    intro i n g f h1 h2 h3 hb ha hS hF
    obtain ⟨n, rfl⟩ : ∃ k, n = k + 1 := ⟨n - 1, by omega⟩
    have : i = 20 := by omega
    subst this
    have g37 : g 37 = 0 := (hb.2.1 37 (by decide) (by decide) (by decide) (by decide)).trans h37
    have f20 : f 20 = fA 20 := hb.2.2.2 20 (by decide)
    obtain ⟨v, hv⟩ := KD_ex b (tks b t 20).1 (tks b t 20).2.1
    refine q_ruleN hN ht (by rw [f20]; exact hbt) g37 (tks_t b t 20) hv ha hb.1 (Nat.le_refl 20) (Or.inr rfl) (fun g' w hb' => ?_)
    exact q_l40F hb'.1 (hF _ rfl g' f w (bkF_of hb hb'))
  | succ m ih =>
    intro i n g f h1 h2 h3 hb ha hS hF
    obtain ⟨n, rfl⟩ : ∃ k, n = k + 1 := ⟨n - 1, by omega⟩
    have g37 : g 37 = 0 := (hb.2.1 37 (by decide) (by decide) (by decide) (by decide)).trans h37
    have f20 : f 20 = fA 20 := hb.2.2.2 20 (by decide)
    have hT := tks_t b t i
    rcases kdF_s b (tks b t i) with ⟨k9, kd⟩ | ⟨k9, kv⟩
    · have hp : pr1 b t (tks b t i) = (tks b t i, none) := by unfold pr1; rw [if_neg (by omega)]
      have hrd : rd b t (m + 1) i = (some (tks b t i).1, i) := by simp [rd, afT, hp]
      rw [hrd] at hF
      refine q_ruleN hN ht (by rw [f20]; exact hbt) g37 hT kd ha hb.1 (by omega) (Or.inl rfl) (fun g' w hb' => ?_)
      exact q_l40F hb'.1 (hF _ rfl g' f w (bkF_of hb hb'))
    · refine q_ruleM (g0 := g) hN ht (by rw [f20]; exact hbt) g37 hT k9 kv ha hb.1 (by omega) (fun g1 a c y hpr hay => ?_) (fun g1 y w hpr hby => ?_)
      · have hp : pr1 b t (tks b t i) = (y, some (a, c)) := by unfold pr1; rw [if_pos k9]; exact hpr
        have hTy : Tk3 b t y := by have := pr1_t hT; rw [hp] at this; exact this
        refine q_126 (by omega) h37 (bkM_tk hb hay) rfl (by simp [rlA, hp]) (by simp [rlC, hp]) (fun f2 hb2 => ?_)
        have hg2 : tkM (va_up g1 29 (nI (i + 1))) (va_up g1 29 (nI (i + 1))) t y := ⟨(up_n _ _ (by decide)).trans hay.1, (up_n _ _ (by decide)).trans hay.2.1, (up_n _ _ (by decide)).trans hay.2.2.1, (up_n _ _ (by decide)).trans hay.2.2.2.1, fun _ _ _ _ => rfl⟩
        generalize va_up g1 29 (nI (i + 1)) = g2 at hb2 hg2
        have f20' : f2 20 = fA 20 := hb2.2.2.2 20 (by decide)
        have g37' : g2 37 = 0 := (hb2.2.1 37 (by decide) (by decide) (by decide) (by decide)).trans h37
        have y3 := (tk_end hTy).2.2.2
        have e34 : ∀ k : Nat, k ≤ 3 → ((g2 34 = nI k) ↔ y.2.2 = k) := fun k hk => by
          rw [hg2.2.2.2.1, eq_I, nI_I (by omega), nI_I (by omega)]; omega
        have hs := semi hTy
        unfold wX12_rules_l40
        refine ⟨fun c => absurd g37' c, fun _ => ?_⟩
        have out : ¬ isWt b y 13 = true → wX12_rules_j77 N Q g2 f2 (wot b y) := by
          intro hw
          unfold wX12_rules_j77
          refine ⟨fun c => absurd g37' c, fun _ => ⟨fun c => ?_, fun c => ?_⟩⟩
          · have z : y.2.2 = 0 := (e34 0 (by omega)).mp c
            have hrd : rd b t (m + 1) i = (none, i + 1) := by simp [rd, afT, hp, z]
            rw [hrd] at hS
            exact hS rfl g2 f2 _ hb2
          · have z : ¬ y.2.2 = 0 := fun q => c ((e34 0 (by omega)).mpr q)
            have hrd : rd b t (m + 1) i = (some y.1, i + 1) := by
              rw [rd]
              simp only [afT, hp]
              rw [if_neg (by simp), if_neg z, if_neg hw]
            rw [hrd] at hF
            refine q_mustF g37' (hF _ rfl _ f2 _ ⟨?_, ?_, ?_, hb2.2.2.2⟩)
            · rw [up_n _ _ (by decide), up_s]
            · rw [up_s]; exact hg2.2.1
            · intro j j1 j2 j3 j4 j5 j6
              rw [up_n _ _ j6, up_n _ _ j5]
              exact hb2.2.1 j j1 j2 j3 j4
        refine ⟨fun c => out (fun q => c ((e34 3 (by omega)).mpr (hs.mp q).1)), fun c3 => ⟨fun c => out (fun q => c ?_), fun c => ?_⟩⟩
        · rw [cmp_0]; exact (hs.mp q).2
        · rw [cmp_0] at c
          have z3 := (e34 3 (by omega)).mp c3
          have hw := hs.mpr ⟨z3, c⟩
          refine q_nextM (x := y) (g0 := g2) hN ht (by rw [f20']; exact hbt) hTy hg2 (fun g3 ha3 => ?_)
          have hx : nt b t y = tks b t (i + 1) := by simp [tks, hp]
          rw [hx] at ha3 ⊢
          have hrd : rd b t (m + 1) i = rd b t m (i + 1) := by
            rw [rd]
            simp only [afT, hp]
            rw [if_neg (by simp), if_neg (by omega), if_pos hw]
          rw [hrd] at hS hF
          exact ih (i + 1) n g3 f2 (by omega) (by omega) (by omega) (bkM_tk hb2 ha3) ⟨ha3.1, ha3.2.1, ha3.2.2.1, ha3.2.2.2.1, fun _ _ _ _ => rfl⟩ hS hF
      · have hp : pr1 b t (tks b t i) = (y, none) := by unfold pr1; rw [if_pos k9]; exact hpr
        have hrd : rd b t (m + 1) i = (some y.1, i) := by simp [rd, afT, hp]
        rw [hrd] at hF
        exact q_l40F hby.1 (hF _ rfl g1 f w (bkF_of hb hby))
theorem rd_le (b : Nat → Int32) (t : Nat) : ∀ m i, (rd b t m i).2 ≤ i + m ∧ ((rd b t m i).1 = none → ∀ j, i ≤ j → j < (rd b t m i).2 → gdT b t j) := by
  intro m
  induction m with
  | zero => intro i; simp [rd]
  | succ m ih =>
    intro i
    rw [rd]
    split
    · exact ⟨by simp, fun c => by simp at c⟩
    · next h1 =>
      have hi : ∀ j, i ≤ j → j < i + 1 → gdT b t j := fun j h2 h3 => by
        have : j = i := by omega
        subst this; exact h1
      split
      · exact ⟨by simp, fun _ => hi⟩
      · split
        · obtain ⟨q1, q2⟩ := ih (i + 1)
          refine ⟨by omega, fun c j h2 h3 => ?_⟩
          by_cases h4 : j = i
          · subst h4; exact h1
          · exact q2 c j (by omega) h3
        · exact ⟨by simp, fun c => by simp at c⟩
theorem rdA_le (b : Nat → Int32) (t : Nat) : (rdA b t).2 ≤ 20 ∧ ((rdA b t).1 = none → ∀ j, j < (rdA b t).2 → gdT b t j) := by
  unfold rdA
  split
  · exact ⟨by simp, fun _ j hj => absurd hj (by simp)⟩
  · have := rd_le b t 20 0
    exact ⟨by omega, fun c j hj => this.2 c j (by omega) hj⟩
theorem rd_p (b : Nat → Int32) (t : Nat) : ∀ m i p, (rd b t m i).1 = some p → p ≤ t := by
  intro m
  induction m with
  | zero => intro i p h; simp only [rd, Option.some.injEq] at h; have := (tk_end (tks_t b t i)).2.1; omega
  | succ m ih =>
    intro i p h
    have h2 : (afT b t i).1 ≤ t := (tk_end (pr1_t (tks_t b t i))).2.1
    rw [rd] at h
    split at h
    · simp only [Option.some.injEq] at h; omega
    · split at h
      · simp at h
      · split at h
        · exact ih (i + 1) p h
        · simp only [Option.some.injEq] at h; omega
theorem rdA_p {b : Nat → Int32} {t p : Nat} (h : (rdA b t).1 = some p) : p ≤ t := by
  unfold rdA at h
  split at h
  · simp at h
  · exact rd_p b t 20 0 p h
/-- the rules are taken over -/
theorem q_125 {N r : Nat} {g : gFG} {f : gFF} {w : Int64} {Q : Int32 → gFG → gFF → Int64 → Prop} (hN : 1000 ≤ N) (hr : r ≤ 20) (h24 : g 24 = nI r) (h : ∀ f', (∀ j, j < r → f' 16 j = f 19 (3 * j) ∧ f' 17 j = f 19 (3 * j + 1) ∧ f' 18 j = f 19 (3 * j + 2)) → (∀ j, j ≠ 16 → j ≠ 17 → j ≠ 18 → f' j = f j) → wX12_told N (nI r) g f' w Q) : wX12_rules_l125 N Q N 0 g f w := by
  refine lpU (β := gFF) (fun n x f1 => wX12_rules_l125 N Q n (nI x) g f1 w) (fun x f1 => (∀ j, j < x → f1 16 j = f 19 (3 * j) ∧ f1 17 j = f 19 (3 * j + 1) ∧ f1 18 j = f 19 (3 * j + 2)) ∧ ∀ j, j ≠ 16 → j ≠ 17 → j ≠ 18 → f1 j = f j) r ?_ ?_ 0 N f (by omega) (by omega) ⟨fun j hj => absurd hj (by omega), fun _ _ _ _ => rfl⟩
  · intro n f1 ⟨i1, i2⟩
    unfold wX12_rules_l125
    rw [h24]
    exact ⟨fun _ => h f1 i1 i2, fun c => absurd (nI_le (Nat.le_refl r) (by omega)) c⟩
  · intro n x f1 hx ⟨i1, i2⟩ ih
    unfold wX12_rules_l125
    rw [h24]
    refine ⟨fun c => absurd c (nI_ge hx (by omega)), fun _ => ?_⟩
    rw [nI_3]
    simp only [forall_eq, nI_1, show nI (3 * x) + 2 = nI (3 * x + 2) from nI_add _ 2, nI_clamp (show 3 * x < 2 ^ 31 by omega), nI_clamp (show x < 2 ^ 31 by omega), nI_clamp (show 3 * x + 1 < 2 ^ 31 by omega), nI_clamp (show 3 * x + 2 < 2 ^ 31 by omega), up_n _ _ (show (19 : Nat) ≠ 16 by decide), up_n _ _ (show (19 : Nat) ≠ 17 by decide), up_n _ _ (show (17 : Nat) ≠ 16 by decide), up_n _ _ (show (18 : Nat) ≠ 16 by decide), up_n _ _ (show (18 : Nat) ≠ 17 by decide)]
    have hin : vp_in (nI x) 20 := vp_in_nI (by omega) (by decide)
    refine ⟨vp_in_nI (by omega) (by decide), hin, vp_in_nI (by omega) (by decide), hin, vp_in_nI (by omega) (by decide), hin, ?_⟩
    rw [i2 19 (by decide) (by decide) (by decide)]
    refine ih _ ⟨fun j hj => ?_, fun j j1 j2 j3 => ?_⟩
    · rw [up_n _ _ (show (16 : Nat) ≠ 18 by decide), up_n _ _ (show (16 : Nat) ≠ 17 by decide), up_s, up_n _ _ (show (17 : Nat) ≠ 18 by decide), up_s, up_s]
      by_cases hjx : j = x
      · subst hjx
        rw [upd_at, upd_at, upd_at]; exact ⟨rfl, rfl, rfl⟩
      · rw [upd_ne _ _ hjx, upd_ne _ _ hjx, upd_ne _ _ hjx]; exact i1 j (by omega)
    · rw [up_n _ _ j3, up_n _ _ j2, up_n _ _ j1]; exact i2 j j1 j2 j3
theorem ok_rules {GC : gGC} (hG : GCok GC) {N : Nat} (hN : 1000 ≤ N) : ls_rules N (InvP GC) := by
  intro n gS fS gT fT wT hn hI
  obtain ⟨i1, i2, ⟨t, ht, e1, e2, hb⟩, i4, i5, ⟨j6, j7⟩, i8⟩ := hI
  have hd : gS 3 = 0 ∨ gS 3 = 1 := by
    rcases i4 with ⟨-, q, -⟩ | ⟨-, q, -⟩
    · exact Or.inr q
    · exact Or.inl q
  obtain ⟨r1, r2⟩ := rdA_le (fS 44) t
  have hbt : ∀ i, i < t → fT 20 i = fS 44 i := fun i hi => (hb i hi).1
  unfold wX11_rules
  refine q_read hN ht hd e1 (fun g1 f1 hb1 => ?_)
  intro g12 eg12
  have s18 : g12 18 = nI t := by rw [eg12, up_n _ _ (by decide), hb1.2.1 18 (by decide) (by decide) (gbl_n hd).2.2.1]; exact e1
  unfold wX9_cut
  refine ⟨fun c => absurd c (by decide), fun _ => ⟨fun c => ?_, fun _ => ?_⟩⟩
  · rw [s18, lt_I, nI_I (by omega), z_0] at c; omega
  intro g14 eg14
  have s0 : g14 0 = flt (rdA (fS 44) t).1 := by rw [eg14, up_n _ _ (by decide), eg12, up_s]
  -- the model
  have M : ∀ (Q : Int32 → gFG → gFF → Int64 → Prop), ((rdA (fS 44) t).1 = none → ∀ g' f' w', bkM (fS 44) t (va_up (va_up (va_up (va_up (va_up gT 0 0) 33 0) 37 0) 36 (-1)) 29 0) fT (rdA (fS 44) t).2 g' f' → wX12_rules_j96 N Q g' f' w') → (∀ p, (rdA (fS 44) t).1 = some p → ∀ g' f' w', bkF (va_up (va_up (va_up (va_up (va_up gT 0 0) 33 0) 37 0) 36 (-1)) 29 0) fT p g' f' → wX12_rules_j96 N Q g' f' w') → wX12_rules N gT fT wT Q := by
    intro Q hS hF
    unfold wX12_rules
    simp only [forall_eq]
    have q31 : (va_up (va_up (va_up (va_up (va_up gT 0 0) 33 0) 37 0) 36 (-1)) 29 0) 31 = nI t := e2
    have q33 : (va_up (va_up (va_up (va_up (va_up gT 0 0) 33 0) 37 0) 36 (-1)) 29 0) 33 = nI 0 := rfl
    have q37 : (va_up (va_up (va_up (va_up (va_up gT 0 0) 33 0) 37 0) 36 (-1)) 29 0) 37 = 0 := rfl
    have q29 : (va_up (va_up (va_up (va_up (va_up gT 0 0) 33 0) 37 0) 36 (-1)) 29 0) 29 = nI 0 := rfl
    generalize va_up (va_up (va_up (va_up (va_up gT 0 0) 33 0) 37 0) 36 (-1)) 29 0 = gA at hS hF q31 q33 q37 q29
    refine q_next hN ht hbt (nx_tk (fS 44) t 0 (by omega)) q31 q33 (fun g2 a1 a2 a3 a4 => ?_)
    have hbk : bkM (fS 44) t gA fT 0 g2 fT := ⟨(a4 29 (by decide) (by decide) (by decide)).trans q29, fun j h1 h2 h3 h4 => a4 j h1 h2 h3, fun j hj => absurd hj (by omega), fun _ _ => rfl⟩
    have htk : tkM g2 g2 t (tks (fS 44) t 0) := ⟨(a4 31 (by decide) (by decide) (by decide)).trans q31, a1, a2, a3, fun _ _ _ _ => rfl⟩
    have y3 := (tk_end (tks_t (fS 44) t 0)).2.2.2
    have e34 : (g2 34 = 0) ↔ (tks (fS 44) t 0).2.2 = 0 := by
      have : g2 34 = nI (tks (fS 44) t 0).2.2 := a3
      rw [this, eq_I, nI_I (by omega), z_0]; omega
    refine ⟨fun c => ?_, fun c => ?_⟩
    · have hr : rdA (fS 44) t = (none, 0) := by unfold rdA; rw [if_pos (e34.mp c)]
      rw [hr] at hS
      exact hS rfl g2 fT _ hbk
    · have hr : rdA (fS 44) t = rd (fS 44) t 20 0 := by unfold rdA; rw [if_neg (fun q => c (e34.mpr q))]
      rw [hr] at hS hF
      exact q_rulesL hN ht hbt q37 q31 20 0 N g2 fT rfl (by omega) (by omega) hbk htk hS hF
  have fr : ∀ j, j ≠ 0 → j ≠ 18 → j ≠ 19 → j ≠ 20 → j ≠ gbl (gS 3) → g14 j = gS j := fun j k0 k18 k19 k20 kb => by rw [eg14, up_n _ _ k18, eg12, up_n _ _ k0]; exact hb1.2.1 j k19 k20 kb
  have s18' : g14 18 = nI 0 := by rw [eg14, up_s]; rfl
  have s4 : ∀ j, j = 1 ∨ j = 2 ∨ j = 3 ∨ j = 4 ∨ j = 5 ∨ j = 6 ∨ j = 9 ∨ j = 10 ∨ j = 11 ∨ j = 12 ∨ j = 13 ∨ j = 21 ∨ j = 22 → g14 j = gS j := by
    intro j hj
    have : gbl (gS 3) = 23 ∨ gbl (gS 3) = 24 := by rcases hd with q | q <;> rw [q] <;> decide
    exact fr j (by omega) (by omega) (by omega) (by omega) (by omega)
  have f4 : ∀ j, j < 45 ∨ 50 < j → f1 j = fS j := by
    intro j hj
    have h1 : gbq 45 (gS 3) = 45 ∨ gbq 45 (gS 3) = 48 := by rcases hd with q | q <;> rw [q] <;> decide
    have h2 : gbq 46 (gS 3) = 46 ∨ gbq 46 (gS 3) = 49 := by rcases hd with q | q <;> rw [q] <;> decide
    have h3 : gbq 47 (gS 3) = 47 ∨ gbq 47 (gS 3) = 50 := by rcases hd with q | q <;> rw [q] <;> decide
    exact hb1.2.2.2 j (by omega) (by omega) (by omega)
  cases hr : (rdA (fS 44) t).1 with
  | none =>
    have s0' : g14 0 = -1 := by rw [s0, hr]; rfl
    refine ⟨fun _ => ?_, fun c => absurd s0' c⟩
    intro g48 eg48 g53 eg53
    have e53 : g53 2 = gS 3 := by rw [eg53, up_n _ _ (by decide), eg48, up_s]; exact s4 3 (by omega)
    have e53' : g53 3 = gS 2 := by rw [eg53, up_s]; exact s4 2 (by omega)
    have eb : g53 (gbl (gS 3)) = nI (rdA (fS 44) t).2 := by
      have : gbl (gS 3) = 23 ∨ gbl (gS 3) = 24 := by rcases hd with q | q <;> rw [q] <;> decide
      rw [eg53, up_n _ _ (by omega), eg48, up_n _ _ (by omega), eg14, up_n _ _ (by omega), eg12, up_n _ _ (by omega)]
      exact hb1.1
    have s5 : ∀ j, j = 4 ∨ j = 5 ∨ j = 6 ∨ j = 9 ∨ j = 10 ∨ j = 11 ∨ j = 12 ∨ j = 13 ∨ j = 21 ∨ j = 22 → g53 j = gS j := fun j hj => by
      rw [eg53, up_n _ _ (by omega), eg48, up_n _ _ (by omega)]; exact s4 j (by omega)
    have s50 : g53 0 = -1 := by rw [eg53, up_n _ _ (by decide), eg48, up_n _ _ (by decide)]; exact s0'
    have s518 : g53 18 = nI 0 := by rw [eg53, up_n _ _ (by decide), eg48, up_n _ _ (by decide)]; exact s18'
    unfold wX6_length
    dsimp only
    rw [q_answered, e53, eb]
    refine M _ (fun _ g' f' w' hbk => ?_) (fun p hp => by rw [hr] at hp; simp at hp)
    have g37 : g' 37 = 0 := hbk.2.1 37 (by decide) (by decide) (by decide) (by decide)
    have g36 : g' 36 = -1 := hbk.2.1 36 (by decide) (by decide) (by decide) (by decide)
    unfold wX12_rules_j96
    intro g98 eg98
    refine ⟨fun _ => ?_, fun c => absurd (by rw [eg98, up_n _ _ (by decide)]; exact g37) c⟩
    intro y120 ey120 g120 eg120
    have y29 : y120 = nI (rdA (fS 44) t).2 := by rw [ey120, eg98, up_n _ _ (by decide)]; exact hbk.1
    refine q_125 hN r1 (by rw [eg120, up_s]; exact y29) (fun f3 c1 c2 => ?_)
    rw [q_told]
    have mt : ∀ j, j = 2 ∨ j = 3 ∨ j = 6 ∨ j = 15 ∨ j = 21 ∨ j = 38 ∨ j = 40 → g120 j = gT j := by
      intro j hj
      rw [eg120, up_n _ _ (by omega), eg98, up_n _ _ (by omega), hbk.2.1 j (by omega) (by omega) (by omega) (by omega), up_n _ _ (by omega), up_n _ _ (by omega), up_n _ _ (by omega), up_n _ _ (by omega), up_n _ _ (by omega)]
    have m36 : g120 36 = -1 := by rw [eg120, up_n _ _ (by decide), eg98, up_n _ _ (by decide)]; exact g36
    have m31 : g120 31 = nI 0 := by rw [eg120, up_n _ _ (by decide), eg98, up_s]; rfl
    have m24 : g120 24 = nI (rdA (fS 44) t).2 := by rw [eg120, up_s]; exact y29
    have mf : ∀ j, j ≠ 16 → j ≠ 17 → j ≠ 18 → j ≠ 19 → f3 j = fT j := fun j k1 k2 k3 k4 => (c2 j k1 k2 k3).trans (hbk.2.2.2 j k4)
    have u : ∀ (g : gFG) (v : Int32) (j : Nat), j ≠ 1 → va_up g 1 v j = g j := fun g v j hj => up_n g v hj
    have rows : ∀ i, i < (rdA (fS 44) t).2 → (f3 16 i = rlK (fS 44) t i ∧ f3 17 i = rlA (fS 44) t i ∧ f3 18 i = rlC (fS 44) t i) ∧ (0 ≤ (rlK (fS 44) t i).toInt ∧ (rlK (fS 44) t i).toInt ≤ 8) ∧ (0 ≤ (rlA (fS 44) t i).toInt ∧ (rlA (fS 44) t i).toInt ≤ 1000) ∧ 0 ≤ (rlC (fS 44) t i).toInt ∧ (rlC (fS 44) t i).toInt ≤ 1000 := by
      intro i hi
      obtain ⟨k1, k2, -⟩ := gd_r (r2 hr i hi)
      obtain ⟨l1, l2, l3⟩ := c1 i hi
      obtain ⟨l4, l5, l6⟩ := hbk.2.2.1 i hi
      refine ⟨⟨l1.trans l4, l2.trans l5, l3.trans l6⟩, ?_, k2⟩
      unfold rlK
      rw [nI_I (by omega)]; omega
    refine ⟨rfl, ?_, ?_, ?_, ?_, ?_, ?_, ?_⟩
    · rw [u _ _ 13 (by decide), u _ _ 15 (by decide), s5 13 (by omega), mt 15 (by omega), f4 20 (by omega), f4 21 (by omega), f4 22 (by omega), f4 23 (by omega), mf 9 (by decide) (by decide) (by decide) (by decide), mf 10 (by decide) (by decide) (by decide) (by decide), mf 11 (by decide) (by decide) (by decide) (by decide), mf 12 (by decide) (by decide) (by decide) (by decide)]
      exact i1
    · rw [u _ _ 13 (by decide), u _ _ 21 (by decide), s5 13 (by omega), mt 21 (by omega), f4 43 (by omega), f4 29 (by omega), mf 13 (by decide) (by decide) (by decide) (by decide)]
      exact i2
    · exact ⟨0, by omega, (u _ _ 18 (by decide)).trans s518, (u _ _ 31 (by decide)).trans m31, fun i hi => absurd hi (by omega)⟩
    · rcases i4 with ⟨z1, z2, -⟩ | ⟨z1, z2, -⟩
      · refine Or.inr ⟨by rw [u _ _ 2 (by decide), e53, z2], by rw [u _ _ 3 (by decide), e53', z1], (rdA (fS 44) t).2, r1, ?_, (u _ _ 24 (by decide)).trans m24, fun i hi => ?_⟩
        · rw [z2] at eb
          exact (u _ _ 24 (by decide)).trans eb
        · obtain ⟨k1, k2, k3, k4⟩ := rows i hi
          obtain ⟨l1, l2, l3⟩ := hb1.2.2.1 i hi
          rw [z2] at l1 l2 l3
          rw [show f1 48 i = rlK (fS 44) t i from l1, show f1 49 i = rlA (fS 44) t i from l2, show f1 50 i = rlC (fS 44) t i from l3]
          exact ⟨k1, k2, k3, k4⟩
      · refine Or.inl ⟨by rw [u _ _ 2 (by decide), e53, z2], by rw [u _ _ 3 (by decide), e53', z1], (rdA (fS 44) t).2, r1, ?_, (u _ _ 24 (by decide)).trans m24, fun i hi => ?_⟩
        · rw [z2] at eb
          exact (u _ _ 23 (by decide)).trans eb
        · obtain ⟨k1, k2, k3, k4⟩ := rows i hi
          obtain ⟨l1, l2, l3⟩ := hb1.2.2.1 i hi
          rw [z2] at l1 l2 l3
          rw [show f1 45 i = rlK (fS 44) t i from l1, show f1 46 i = rlA (fS 44) t i from l2, show f1 47 i = rlC (fS 44) t i from l3]
          exact ⟨k1, k2, k3, k4⟩
    · rw [u _ _ 21 (by decide), u _ _ 38 (by decide), u _ _ 22 (by decide), u _ _ 40 (by decide), s5 21 (by omega), s5 22 (by omega), mt 38 (by omega), mt 40 (by omega), f4 51 (by omega), f4 52 (by omega), f4 53 (by omega), f4 54 (by omega), mf 21 (by decide) (by decide) (by decide) (by decide), mf 22 (by decide) (by decide) (by decide) (by decide), mf 23 (by decide) (by decide) (by decide) (by decide), mf 24 (by decide) (by decide) (by decide) (by decide)]
      exact i5
    · exact ⟨by rw [up_s, up_s], by rw [u _ _ 36 (by decide), u _ _ 0 (by decide), m36, s50]⟩
    · exact GCk hG i8 ⟨(u _ _ 4 (by decide)).trans (s5 4 (by omega)), (u _ _ 5 (by decide)).trans (s5 5 (by omega)), (u _ _ 6 (by decide)).trans (s5 6 (by omega)), (u _ _ 9 (by decide)).trans (s5 9 (by omega)), (u _ _ 10 (by decide)).trans (s5 10 (by omega)), (u _ _ 11 (by decide)).trans (s5 11 (by omega)), (u _ _ 12 (by decide)).trans (s5 12 (by omega))⟩ ⟨f4 13 (by omega), f4 14 (by omega), f4 18 (by omega), f4 19 (by omega), f4 39 (by omega), f4 40 (by omega), f4 41 (by omega), f4 42 (by omega)⟩ ⟨(u _ _ 2 (by decide)).trans (mt 2 (by omega)), (u _ _ 3 (by decide)).trans (mt 3 (by omega)), (u _ _ 6 (by decide)).trans (mt 6 (by omega))⟩ ⟨mf 1 (by decide) (by decide) (by decide) (by decide), mf 2 (by decide) (by decide) (by decide) (by decide)⟩
  | some p =>
    have hp := rdA_p hr
    have s0' : g14 0 = nI p := by rw [s0, hr]; rfl
    have s1' : ¬ g14 0 = -1 := by rw [s0', eq_I, nI_I (by omega), z_m1]; omega
    refine ⟨fun c => absurd c s1', fun _ => ?_⟩
    rw [q_answered]
    refine M _ (fun q => by rw [hr] at q; simp at q) (fun p' hp' g' f' w' hbk => ?_)
    have : p' = p := by rw [hr] at hp'; simpa using hp'.symm
    subst this
    unfold wX12_rules_j96
    intro g98 eg98
    refine ⟨fun c => absurd c ?_, fun _ => ?_⟩
    · rw [eg98, up_n _ _ (by decide), hbk.1]; decide
    rw [q_told]
    have mt : ∀ j, j = 2 ∨ j = 3 ∨ j = 6 ∨ j = 15 ∨ j = 21 ∨ j = 24 ∨ j = 38 ∨ j = 40 → g98 j = gT j := by
      intro j hj
      rw [eg98, up_n _ _ (by omega), hbk.2.2.1 j (by omega) (by omega) (by omega) (by omega) (by omega) (by omega), up_n _ _ (by omega), up_n _ _ (by omega), up_n _ _ (by omega), up_n _ _ (by omega), up_n _ _ (by omega)]
    have m36 : g98 36 = nI p' := by rw [eg98, up_n _ _ (by decide)]; exact hbk.2.1
    have m31 : g98 31 = nI 0 := by rw [eg98, up_s]; rfl
    have mf : ∀ j, j ≠ 19 → f' j = fT j := hbk.2.2.2
    have u : ∀ (g : gFG) (v : Int32) (j : Nat), j ≠ 1 → va_up g 1 v j = g j := fun g v j hj => up_n g v hj
    refine ⟨rfl, ?_, ?_, ?_, ?_, ?_, ?_, ?_⟩
    · rw [u _ _ 13 (by decide), u _ _ 15 (by decide), s4 13 (by omega), mt 15 (by omega), f4 20 (by omega), f4 21 (by omega), f4 22 (by omega), f4 23 (by omega), mf 9 (by decide), mf 10 (by decide), mf 11 (by decide), mf 12 (by decide)]
      exact i1
    · rw [u _ _ 13 (by decide), u _ _ 21 (by decide), s4 13 (by omega), mt 21 (by omega), f4 43 (by omega), f4 29 (by omega), mf 13 (by decide)]
      exact i2
    · exact ⟨0, by omega, (u _ _ 18 (by decide)).trans s18', (u _ _ 31 (by decide)).trans m31, fun i hi => absurd hi (by omega)⟩
    · have fd := hb1.2.2.2
      rcases i4 with ⟨z1, z2, z3⟩ | ⟨z1, z2, z3⟩
      · rw [z2] at fd
        have g23 : g14 23 = gS 23 := fr 23 (by decide) (by decide) (by decide) (by decide) (by rw [z2]; decide)
        refine Or.inl ⟨by rw [u _ _ 2 (by decide), s4 2 (by omega), z1], by rw [u _ _ 3 (by decide), s4 3 (by omega), z2], ?_⟩
        rw [u _ _ 23 (by decide), u _ _ 24 (by decide), g23, mt 24 (by omega), fd 45 (by decide) (by decide) (by decide), fd 46 (by decide) (by decide) (by decide), fd 47 (by decide) (by decide) (by decide), mf 16 (by decide), mf 17 (by decide), mf 18 (by decide)]
        exact z3
      · rw [z2] at fd
        have g24 : g14 24 = gS 24 := fr 24 (by decide) (by decide) (by decide) (by decide) (by rw [z2]; decide)
        refine Or.inr ⟨by rw [u _ _ 2 (by decide), s4 2 (by omega), z1], by rw [u _ _ 3 (by decide), s4 3 (by omega), z2], ?_⟩
        rw [u g14 _ 24 (by decide), u g98 _ 24 (by decide), g24, mt 24 (by omega), fd 48 (by decide) (by decide) (by decide), fd 49 (by decide) (by decide) (by decide), fd 50 (by decide) (by decide) (by decide), mf 16 (by decide), mf 17 (by decide), mf 18 (by decide)]
        exact z3
    · rw [u _ _ 21 (by decide), u _ _ 38 (by decide), u _ _ 22 (by decide), u _ _ 40 (by decide), s4 21 (by omega), s4 22 (by omega), mt 38 (by omega), mt 40 (by omega), f4 51 (by omega), f4 52 (by omega), f4 53 (by omega), f4 54 (by omega), mf 21 (by decide), mf 22 (by decide), mf 23 (by decide), mf 24 (by decide)]
      exact i5
    · exact ⟨by rw [up_s, up_s], by rw [u _ _ 36 (by decide), u _ _ 0 (by decide), m36, s0']⟩
    · exact GCk hG i8 ⟨(u _ _ 4 (by decide)).trans (s4 4 (by omega)), (u _ _ 5 (by decide)).trans (s4 5 (by omega)), (u _ _ 6 (by decide)).trans (s4 6 (by omega)), (u _ _ 9 (by decide)).trans (s4 9 (by omega)), (u _ _ 10 (by decide)).trans (s4 10 (by omega)), (u _ _ 11 (by decide)).trans (s4 11 (by omega)), (u _ _ 12 (by decide)).trans (s4 12 (by omega))⟩ ⟨f4 13 (by omega), f4 14 (by omega), f4 18 (by omega), f4 19 (by omega), f4 39 (by omega), f4 40 (by omega), f4 41 (by omega), f4 42 (by omega)⟩ ⟨(u _ _ 2 (by decide)).trans (mt 2 (by omega)), (u _ _ 3 (by decide)).trans (mt 3 (by omega)), (u _ _ 6 (by decide)).trans (mt 6 (by omega))⟩ ⟨mf 1 (by decide), mf 2 (by decide)⟩
