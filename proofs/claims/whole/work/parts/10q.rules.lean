/-! the whole text of rules -/
def rd (b : Nat → Int32) (t : Nat) : Nat → Nat → Option Nat × Nat
  | 0, i => (some (tks b t i).1, i)
  | m + 1, i => if (pr1 b t (tks b t i)).2 = none then (some (afT b t i).1, i) else if (afT b t i).2.2 = 0 then (none, i + 1) else if isWt b (afT b t i) 13 = true then rd b t m (i + 1) else (some (afT b t i).1, i + 1)
def rdA (b : Nat → Int32) (t : Nat) : Option Nat × Nat := if (tks b t 0).2.2 = 0 then (none, 0) else rd b t 20 0
def flt (o : Option Nat) : Int32 := match o with
  | none => -1
  | some p => nI p
def bkC (b : Nat → Int32) (t : Nat) (d : Int32) (gA : gFG) (fA : gFF) (i : Nat) (g : gFG) (f : gFF) : Prop := g (gbl d) = nI i ∧ (∀ j, j ≠ 19 → j ≠ 20 → j ≠ gbl d → g j = gA j) ∧ (∀ j, j < i → f (gbq 45 d) j = rlK b t j ∧ f (gbq 46 d) j = rlA b t j ∧ f (gbq 47 d) j = rlC b t j) ∧ (∀ j, j ≠ gbq 45 d → j ≠ gbq 46 d → j ≠ gbq 47 d → f j = fA j)
theorem gbl_n {d : Int32} (hd : d = 0 ∨ d = 1) : gbl d ≠ 19 ∧ gbl d ≠ 20 ∧ (18 : Nat) ≠ gbl d ∧ (19 : Nat) ≠ gbl d ∧ (20 : Nat) ≠ gbl d := by
  rcases hd with rfl | rfl <;> decide
theorem gbq_n {d : Int32} (hd : d = 0 ∨ d = 1) : (44 : Nat) ≠ gbq 45 d ∧ (44 : Nat) ≠ gbq 46 d ∧ (44 : Nat) ≠ gbq 47 d ∧ gbq 45 d ≠ gbq 46 d ∧ gbq 45 d ≠ gbq 47 d ∧ gbq 46 d ≠ gbq 47 d := by
  rcases hd with rfl | rfl <;> decide
theorem bkC_tk {b : Nat → Int32} {t i : Nat} {d : Int32} {gA g g' : gFG} {fA f : gFF} {x : T3} (hd : d = 0 ∨ d = 1) (h : bkC b t d gA fA i g f) (ha : tkC g g' t x) : bkC b t d gA fA i g' f :=
  ⟨(ha.2.2.2 _ (gbl_n hd).1 (gbl_n hd).2.1).trans h.1, fun j h1 h2 h3 => (ha.2.2.2 j h1 h2).trans (h.2.1 j h1 h2 h3), h.2.2.1, h.2.2.2⟩
theorem q_addC {N t i : Nat} {d kv a c : Int32} {b : Nat → Int32} {gA g : gFG} {fA f : gFF} {Q : gFG → gFF → Prop} (hd : d = 0 ∨ d = 1) (hi : i < 20) (hb : bkC b t d gA fA i g f) (hk : kv = rlK b t i) (ha : a = rlA b t i) (hc : c = rlC b t i) (h : ∀ f', bkC b t d gA fA (i + 1) (va_up g (gbl d) (nI (i + 1))) f' → Q (va_up g (gbl d) (nI (i + 1))) f') : wX6_add N d kv a c g f Q := by
  obtain ⟨-, -, -, n1, n2, n3⟩ := gbq_n hd
  unfold wX6_add
  rw [hb.1]
  simp only [forall_eq, nI_clamp (show i < 2 ^ 31 by omega), nI_1]
  have hin : vp_in (nI i) 20 := vp_in_nI hi (by decide)
  refine ⟨fun c => absurd c (nI_ge hi (by decide)), fun _ => ⟨hin, hin, hin, ?_⟩⟩
  apply h
  refine ⟨up_s _ _ _, fun j h1 h2 h3 => (up_n _ _ h3).trans (hb.2.1 j h1 h2 h3), fun j hj => ?_, fun j h1 h2 h3 => ?_⟩
  · rw [up_n _ _ n2, up_n _ _ n1, up_s, up_n _ _ n3, up_s, up_s, up_n _ _ n1.symm, up_n _ _ n3.symm, up_n _ _ n2.symm]
    by_cases hji : j = i
    · rw [hji, upd_at, upd_at, upd_at]; exact ⟨hk, ha, hc⟩
    · rw [upd_ne _ _ hji, upd_ne _ _ hji, upd_ne _ _ hji]; exact hb.2.2.1 j (by omega)
  · rw [up_n _ _ h3, up_n _ _ h2, up_n _ _ h1]; exact hb.2.2.2 j h1 h2 h3
theorem q_ruleCN {N t : Nat} {d : Int32} {x : T3} {g0 g : gFG} {f : gFF} {Q : Int32 → gFG → gFF → Prop} (hN : 1000 ≤ N) (ht : t ≤ 300) (hT : Tk3 (f 44) t x) (ha : tkC g0 g t x) (hk : KD (f 44) x.1 x.2.1 (-1)) (h : Q 0 g f) : wX7_readRule N d g f Q := by
  unfold wX7_readRule
  obtain ⟨p, hTp⟩ := hT
  exact q_kindHere hN ht hTp ha.1 ha.2.1 ha.2.2.1 hk ⟨fun c => absurd rfl c, fun _ => h⟩
theorem tk_end {b : Nat → Int32} {t : Nat} {x : T3} (hT : Tk3 b t x) : (x.2.2 = 0 ↔ ¬ x.1 < t) ∧ x.1 ≤ t ∧ x.2.1 ≤ t ∧ x.2.2 ≤ 3 := by
  obtain ⟨p, t1, t2, t3, t4, t5, t6⟩ := hT
  rcases t6 with ⟨q1, q2, q3⟩ | ⟨q1, q2, ⟨q3, -⟩ | ⟨q3, -⟩ | ⟨q3, -⟩⟩
  · exact ⟨⟨fun _ => by omega, fun _ => q1⟩, t2, t3, by omega⟩
  · exact ⟨⟨fun _ => by omega, fun _ => by omega⟩, t2, t3, by omega⟩
  · exact ⟨⟨fun _ => by omega, fun _ => by omega⟩, t2, t3, by omega⟩
  · exact ⟨⟨fun _ => by omega, fun _ => by omega⟩, t2, t3, by omega⟩
theorem q_atEnd {N t : Nat} {x : T3} {b : Nat → Int32} {g0 g : gFG} {f : gFF} {Q : Int32 → gFG → gFF → Prop} (ht : t ≤ 300) (hT : Tk3 b t x) (ha : tkC g0 g t x) (h1 : x.2.2 = 0 → Q 1 g f) (h2 : ¬ x.2.2 = 0 → Q 0 g f) : wX7_isAtEnd N g f Q := by
  obtain ⟨q1, q2, -, -⟩ := tk_end hT
  unfold wX7_isAtEnd wX9_length
  dsimp only
  rw [ha.1, ha.2.1, nI_ltI (by omega) (by omega)]
  exact ⟨fun c => h2 (fun q => q1.mp q c), fun c => h1 (q1.mpr c)⟩
theorem q_readL {N t : Nat} {d : Int32} {gA : gFG} {fA : gFF} {Q : Int32 → gFG → gFF → Prop} (hN : 1000 ≤ N) (ht : t ≤ 300) (hd : d = 0 ∨ d = 1) : ∀ (m i n : Nat) (g : gFG) (f : gFF), 20 - i = m → i ≤ 20 → m < n → bkC (fA 44) t d gA fA i g f → tkC g g t (tks (fA 44) t i) → (∀ g' f', bkC (fA 44) t d gA fA (rd (fA 44) t m i).2 g' f' → Q (flt (rd (fA 44) t m i).1) g' f') → wX7_read_l24 N d Q n (nI i) g f := by
  obtain ⟨b1, b2, b3, -⟩ := gbq_n hd
  obtain ⟨c1, c2, c3, c4, c5⟩ := gbl_n hd
  intro m
  induction m with
  | zero =>
    intro i n g f h1 h2 h3 hb ha h
    obtain ⟨n, rfl⟩ : ∃ k, n = k + 1 := ⟨n - 1, by omega⟩
    have : i = 20 := by omega
    subst this
    unfold wX7_read_l24
    refine ⟨fun _ => ?_, fun c => absurd (nI_le (Nat.le_refl 20) (by decide)) c⟩
    rw [ha.2.1]
    exact h g f hb
  | succ m ih =>
    intro i n g f h1 h2 h3 hb ha h
    obtain ⟨n, rfl⟩ : ∃ k, n = k + 1 := ⟨n - 1, by omega⟩
    unfold wX7_read_l24
    refine ⟨fun c => absurd c (nI_ge (show i < 20 by omega) (by decide)), fun _ => ?_⟩
    have f44 : f 44 = fA 44 := hb.2.2.2 44 b1 b2 b3
    have hT := tks_t (fA 44) t i
    rcases kdF_s (fA 44) (tks (fA 44) t i) with ⟨k9, kd⟩ | ⟨k9, kv⟩
    · have hp : pr1 (fA 44) t (tks (fA 44) t i) = (tks (fA 44) t i, none) := by unfold pr1; rw [if_neg (by omega)]
      have hrd : rd (fA 44) t (m + 1) i = (some (tks (fA 44) t i).1, i) := by simp [rd, afT, hp]
      rw [hrd] at h
      refine q_ruleCN hN ht (by rw [f44]; exact hT) ha (by rw [f44]; exact kd) ⟨fun c => absurd rfl c, fun _ => ?_⟩
      rw [ha.2.1]
      exact h g f hb
    · refine q_ruleC (x := tks (fA 44) t i) (g0 := g) hN ht (by rw [f44]; exact hT) k9 (by rw [f44]; exact kv) ha (fun g1 a c y hpr hay => ?_) (fun g1 y hpr hay => ?_)
      · rw [f44] at hpr
        have hp : pr1 (fA 44) t (tks (fA 44) t i) = (y, some (a, c)) := by unfold pr1; rw [if_pos k9]; exact hpr
        have hTy : Tk3 (fA 44) t y := by have := pr1_t hT; rw [hp] at this; exact this
        refine q_addC hd (by omega) (bkC_tk hd hb hay) rfl (by simp [rlA, hp]) (by simp [rlC, hp]) (fun f2 hb2 => ?_)
        refine ⟨fun _ => ?_, fun c => absurd c (by decide)⟩
        have hg2 : tkC (va_up g1 (gbl d) (nI (i + 1))) (va_up g1 (gbl d) (nI (i + 1))) t y := ⟨(up_n _ _ c3).trans hay.1, (up_n _ _ c4).trans hay.2.1, (up_n _ _ c5).trans hay.2.2.1, fun _ _ _ => rfl⟩
        generalize va_up g1 (gbl d) (nI (i + 1)) = g2 at hb2 hg2
        have f44' : f2 44 = fA 44 := hb2.2.2.2 44 b1 b2 b3
        refine q_atEnd ht hTy hg2 (fun z => ?_) (fun z => ?_)
        · have hrd : rd (fA 44) t (m + 1) i = (none, i + 1) := by simp [rd, afT, hp, z]
          rw [hrd] at h
          exact ⟨fun c => absurd c (by decide), fun _ => h g2 f2 hb2⟩
        · refine ⟨fun _ => ?_, fun c => absurd rfl c⟩
          refine q_isWC (x := y) (g0 := g2) hN ht (by decide) (by rw [f44']; exact hTy) hg2 ?_
          rw [f44']
          cases hw : isWt (fA 44) y 13 with
          | true =>
            refine ⟨fun _ => ?_, fun c => absurd c (by decide)⟩
            refine q_advC (x := y) (g0 := g2) hN ht (by rw [f44']; exact hTy) hg2 (fun g3 ha3 => ?_)
            rw [f44'] at ha3
            simp only [forall_eq, nI_1]
            have hx : nt (fA 44) t y = tks (fA 44) t (i + 1) := by simp [tks, hp]
            rw [hx] at ha3
            have hrd : rd (fA 44) t (m + 1) i = rd (fA 44) t m (i + 1) := by
              rw [rd]
              simp only [afT, hp]
              rw [if_neg (by simp), if_neg z, if_pos hw]
            rw [hrd] at h
            exact ih (i + 1) n g3 f2 (by omega) (by omega) (by omega) (bkC_tk hd hb2 ha3) ⟨ha3.1, ha3.2.1, ha3.2.2.1, fun _ _ _ => rfl⟩ h
          | false =>
            refine ⟨fun c => absurd rfl c, fun _ => ?_⟩
            have hrd : rd (fA 44) t (m + 1) i = (some y.1, i + 1) := by
              rw [rd]
              simp only [afT, hp]
              rw [if_neg (by simp), if_neg z, if_neg (by rw [hw]; decide)]
            rw [hrd] at h
            rw [hg2.2.1]
            exact h g2 f2 hb2
      · rw [f44] at hpr
        have hp : pr1 (fA 44) t (tks (fA 44) t i) = (y, none) := by unfold pr1; rw [if_pos k9]; exact hpr
        have hrd : rd (fA 44) t (m + 1) i = (some y.1, i) := by simp [rd, afT, hp]
        rw [hrd] at h
        refine ⟨fun c => absurd rfl c, fun _ => ?_⟩
        rw [hay.2.1]
        exact h g1 f (bkC_tk hd hb hay)
theorem q_read {N t : Nat} {d : Int32} {g : gFG} {f : gFF} {Q : Int32 → gFG → gFF → Prop} (hN : 1000 ≤ N) (ht : t ≤ 300) (hd : d = 0 ∨ d = 1) (h18 : g 18 = nI t) (h : ∀ g' f', bkC (f 44) t d g f (rdA (f 44) t).2 g' f' → Q (flt (rdA (f 44) t).1) g' f') : wX7_read N d g f Q := by
  obtain ⟨c1, c2, c3, c4, c5⟩ := gbl_n hd
  unfold wX7_read wX6_clear
  intro g2 eg2 g6 eg6
  refine q_adv hN ht (nx_tk (f 44) t 0 (by omega)) (by rw [eg6, up_n _ _ (by decide), eg2, up_n _ _ c3]; exact h18) (by rw [eg6, up_s]; rfl) (fun g3 a1 a2 a3 => ?_)
  have hb : bkC (f 44) t d g f 0 g3 f := by
    refine ⟨?_, fun j h1 h2 h3 => ?_, fun j hj => absurd hj (by omega), fun _ _ _ _ => rfl⟩
    · rw [a3 _ c1 c2, eg6, up_n _ _ c2, eg2, up_s]; rfl
    · rw [a3 _ h1 h2, eg6, up_n _ _ h2, eg2, up_n _ _ h3]
  have ha : tkC g3 g3 t (tks (f 44) t 0) := ⟨by rw [a3 18 (by decide) (by decide), eg6, up_n _ _ (by decide), eg2, up_n _ _ c3]; exact h18, a1, a2, fun _ _ _ => rfl⟩
  refine q_atEnd ht (tks_t (f 44) t 0) ha (fun z => ?_) (fun z => ?_)
  · have hr : rdA (f 44) t = (none, 0) := by unfold rdA; rw [if_pos z]
    rw [hr] at h
    exact ⟨fun c => absurd c (by decide), fun _ => h g3 f hb⟩
  · have hr : rdA (f 44) t = rd (f 44) t 20 0 := by unfold rdA; rw [if_neg z]
    rw [hr] at h
    exact ⟨fun _ => q_readL hN ht hd 20 0 N g3 f rfl (by omega) (by omega) hb ha h, fun c => absurd rfl c⟩
