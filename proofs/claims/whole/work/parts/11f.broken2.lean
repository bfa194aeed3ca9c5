/-! the first rule that is broken -/
theorem sm_z6 {h : Nat → Int32} {L : Nat} (hL : L ≤ 6) (e : ∀ i, i < 6 → L ≤ i → h i = 0) : sm h 6 = sm h L := by
  have : ∀ d, L + d ≤ 6 → sm h (L + d) = sm h L := by
    intro d
    induction d with
    | zero => intro _; rfl
    | succ d ih => intro hd; rw [Nat.add_succ, sm, ih (by omega), e (L + d) (by omega) (by omega), Int32.add_zero]
  have := this (6 - L) (by omega)
  rw [show L + (6 - L) = 6 by omega] at this
  exact this
theorem ff_c {P P' : Nat → Bool} : ∀ m i, (∀ k, i ≤ k → k < i + m → P k = P' k) → ff P m i = ff P' m i := by
  intro m
  induction m with
  | zero => intro i _; rfl
  | succ m ih => intro i h; rw [ff, ff, h i (by omega) (by omega), ih (i + 1) (fun k h1 h2 => h k (by omega) (by omega))]
def fbr (P : Nat → Bool) (r i : Nat) : Int32 := if ff P (r - i) i < r then nI (ff P (r - i) i) else -1
theorem q_brL {N r : Nat} {b : Int32} {P : Nat → Bool} {g : gFG} {f : gFF} {Q : Int32 → gFG → gFF → Prop} (hb : g 2 = b) (hr : r ≤ 20) (hl : g (gbl b) = nI r) (hP : ∀ i, i < r → ∀ Q : Int32 → gFG → gFF → Prop, Q (bi (P i)) g f → wX3_isBroken N (f (gbq 45 b) i) (f (gbq 46 b) i) (f (gbq 47 b) i) g f Q) : ∀ m i fu, r - i = m → i < 2 ^ 31 → m < fu → Q (fbr P r i) g f → wX11_broken_l22 N Q fu (nI i) g f := by
  intro m
  induction m with
  | zero =>
    intro i fu h1 hi h2 hq
    obtain ⟨fu, rfl⟩ : ∃ k, fu = k + 1 := ⟨fu - 1, by omega⟩
    unfold wX11_broken_l22 wX6_length
    dsimp only
    rw [hb, hl]
    unfold fbr at hq
    rw [h1, ff, if_neg (by omega)] at hq
    exact ⟨fun _ => hq, fun c => absurd ((nI_leI (by omega) hi).mpr (by omega)) c⟩
  | succ m ih =>
    intro i fu h1 hi h2 hq
    obtain ⟨fu, rfl⟩ : ∃ k, fu = k + 1 := ⟨fu - 1, by omega⟩
    have hin : vp_in (nI i) 20 := vp_in_nI (by omega) (by decide)
    have n0 : ¬ nI i < 0 := by rw [lt_I, nI_I (by omega), z_0]; omega
    have n20 : ¬ (20 : Int32) ≤ nI i := nI_ge (show i < 20 by omega) (by decide)
    have nr : ¬ nI r ≤ nI i := nI_ge (show i < r by omega) (by omega)
    unfold wX11_broken_l22 wX6_length
    dsimp only
    rw [hb, hl]
    refine ⟨fun c => absurd c nr, fun _ => ?_⟩
    unfold wX6_kindAt
    rw [hl]
    refine ⟨fun c => absurd c n0, fun _ => ⟨fun c => absurd c nr, fun _ => ⟨fun c => absurd c n20, fun _ => ⟨hin, ?_⟩⟩⟩⟩
    dsimp only
    rw [hb]
    unfold wX6_firstAt
    rw [hl]
    refine ⟨fun c => absurd c n0, fun _ => ⟨fun c => absurd c nr, fun _ => ⟨fun c => absurd c n20, fun _ => ⟨hin, ?_⟩⟩⟩⟩
    dsimp only
    rw [hb]
    unfold wX6_secondAt
    rw [hl]
    refine ⟨fun c => absurd c n0, fun _ => ⟨fun c => absurd c nr, fun _ => ⟨fun c => absurd c n20, fun _ => ⟨hin, ?_⟩⟩⟩⟩
    rw [nI_clamp (show i < 2 ^ 31 by omega)]
    refine hP i (by omega) _ ?_
    unfold fbr at hq
    rw [h1, ff] at hq
    cases hp : P i with
    | true =>
      rw [hp, if_pos (show true = true from rfl), if_pos (show i < r by omega)] at hq
      exact ⟨fun c => absurd c (by decide), fun _ => hq⟩
    | false =>
      rw [hp, if_neg (show ¬ (false = true) by decide)] at hq
      refine ⟨fun _ => ?_, fun c => absurd rfl c⟩
      rintro _ rfl
      rw [nI_1]
      refine ih (i + 1) fu (by omega) (by omega) (by omega) ?_
      unfold fbr
      rw [show r - (i + 1) = m by omega]
      exact hq
theorem q_brML {N r : Nat} {P : Nat → Bool} {g : gFG} {f : gFF} {w : Int64} {Q : Int32 → gFG → gFF → Int64 → Prop} (hr : r ≤ 20) (hl : g 24 = nI r) (hP : ∀ i, i < r → ∀ Q : Int32 → gFG → gFF → Int64 → Prop, Q (bi (P i)) g f w → wX12_isBroken N (nI i) g f w Q) : ∀ m i fu, r - i = m → i < 2 ^ 31 → m < fu → Q (fbr P r i) g f w → wX12_broken_l21 N Q fu (nI i) g f w := by
  intro m
  induction m with
  | zero =>
    intro i fu h1 hi h2 hq
    obtain ⟨fu, rfl⟩ : ∃ k, fu = k + 1 := ⟨fu - 1, by omega⟩
    unfold wX12_broken_l21
    rw [hl]
    unfold fbr at hq
    rw [h1, ff, if_neg (by omega)] at hq
    exact ⟨fun _ => hq, fun c => absurd ((nI_leI (by omega) hi).mpr (by omega)) c⟩
  | succ m ih =>
    intro i fu h1 hi h2 hq
    obtain ⟨fu, rfl⟩ : ∃ k, fu = k + 1 := ⟨fu - 1, by omega⟩
    unfold wX12_broken_l21
    rw [hl]
    refine ⟨fun c => absurd c (nI_ge (show i < r by omega) (by omega)), fun _ => ?_⟩
    refine hP i (by omega) _ ?_
    unfold fbr at hq
    rw [h1, ff] at hq
    cases hp : P i with
    | true =>
      rw [hp, if_pos (show true = true from rfl), if_pos (show i < r by omega)] at hq
      exact ⟨fun c => absurd c (by decide), fun _ => hq⟩
    | false =>
      rw [hp, if_neg (show ¬ (false = true) by decide)] at hq
      refine ⟨fun _ => ?_, fun c => absurd rfl c⟩
      rintro _ rfl
      rw [nI_1]
      refine ih (i + 1) fu (by omega) (by omega) (by omega) ?_
      unfold fbr
      rw [show r - (i + 1) = m by omega]
      exact hq
theorem brk_0 {k a c tin lead tin' lead' wl air dry stuck pcs spc cor : Int32} : brk k a c 0 tin lead wl air dry stuck pcs spc cor = brk k a c 0 tin' lead' wl air dry stuck pcs spc cor := by
  have : ∀ s, outB s a c 0 = true := fun s => by unfold outB; exact decide_eq_true (Or.inl rfl)
  unfold brk
  rw [this, this, this, this, this, this]
theorem IR_get {b d l0 l1 : Int32} {k0 a0 c0 k1 a1 c1 : Nat → Int32} {l' : Int32} {k' a' c' : Nat → Int32} {g : gFG} {f : gFF} (h : IR b d l0 l1 k0 a0 c0 k1 a1 c1 l' k' a' c') (e1 : g 23 = l0) (e2 : g 24 = l1) (e3 : f 45 = k0) (e4 : f 46 = a0) (e5 : f 47 = c0) (e6 : f 48 = k1) (e7 : f 49 = a1) (e8 : f 50 = c1) : IR1 (g (gbl b)) l' (f (gbq 45 b)) (f (gbq 46 b)) (f (gbq 47 b)) k' a' c' := by
  rcases h with ⟨rfl, -, h⟩ | ⟨rfl, -, h⟩
  · have q1 : gbl 0 = 23 := rfl
    have q2 : gbq 45 0 = 45 := rfl
    have q3 : gbq 46 0 = 46 := rfl
    have q4 : gbq 47 0 = 47 := rfl
    rw [q1, q2, q3, q4, e1, e3, e4, e5]; exact h
  · have q1 : gbl 1 = 24 := rfl
    have q2 : gbq 45 1 = 48 := rfl
    have q3 : gbq 46 1 = 49 := rfl
    have q4 : gbq 47 1 = 50 := rfl
    rw [q1, q2, q3, q4, e2, e6, e7, e8]; exact h
theorem ok_broken {N : Nat} (hN : 100000 ≤ N) : ls_broken N (InvP (GCg SPd)) := by
  intro n a gS fS gT fT wT hn hI
  have hst := inv_same (GCg_ok SPd) hI 0
  unfold wX11_broken
  refine ⟨fun ha => ?_, fun ha => ?_⟩
  · rw [le_I, z_0] at ha
    have hr := rng_I a
    obtain ⟨i, hi, rfl⟩ : ∃ i : Nat, i < 2 ^ 31 ∧ a = nI i := ⟨a.toInt.toNat, by omega, by rw [eq_I, nI_I (by omega)]; omega⟩
    refine q_ref (by omega) hI (fun W H g1 f1 hWH ⟨u4, u5, t2, t3⟩ hS h9 hF hI1 hg1 => ?_)
    refine q_stripI (by omega) hI1 (fun W' H' g2 f2 hWH' ⟨v4, v5, t2', t3'⟩ hS2 hSP hI2 hg2 hf2 => ?_)
    have eW : W' = W := nI_inj (by omega) (by omega) (t2'.symm.trans t2)
    have eH : H' = H := nI_inj (by omega) (by omega) (t3'.symm.trans t3)
    subst eW; subst eH
    have hW := hWH.2.1
    have hH := hWH.2.2.2
    have f13 : f2 13 = f1 13 := hf2 13 (by decide) (by decide) (by decide)
    have f14 : f2 14 = f1 14 := hf2 14 (by decide) (by decide) (by decide)
    have hF2 : ∀ x y, x < W' → y < H' → f2 14 (12 * y + x) = fateB W' H' (f2 13) (fT 2) x y := by rw [f13, f14]; exact hF
    obtain ⟨⟨L, hL, l1, l2, hl⟩, ⟨-, iB⟩, -, iR, -, -, -⟩ := id hI2
    obtain ⟨r, hr20, r1, r2, hrr⟩ := IR_get (g := g2) (f := f2) iR rfl rfl rfl rfl rfl rfl rfl rfl
    obtain ⟨m, m8, mp, mz, mT, mG, mo⟩ := hSP
    have hgone : bcI (g2 11) = nI m := by
      rw [bc_A mG (fun q _ c => c.1) (b := Gs W' H' (f2 13) m) (fun q hq => ⟨fun c => ⟨hq, c⟩, fun c => c.2⟩), Gs_n m mp]
    have hthere : bcI (g2 10) = nI (cB (fun q => pb (thP W' H' (f2 13) q)) 8) := bc_A mT (fun q _ c => c.1) (fun q hq => pb_t)
    have hkind : ∀ i, i < r → ∃ k, k ≤ 8 ∧ f2 (gbq 45 (g2 2)) i = nI k := by
      intro i hi
      have := (hrr i hi).2.1
      exact ⟨(f2 (gbq 45 (g2 2)) i).toInt.toNat, by omega, by rw [eq_I, nI_I (by omega)]; omega⟩
    refine q_brL (b := g2 2) (P := fun i => brk (f2 (gbq 45 (g2 2)) i) (f2 (gbq 46 (g2 2)) i) (f2 (gbq 47 (g2 2)) i) (sm (f2 43) 6) (sm (fun i => f2 43 i * (if i < L then f2 20 i else 0)) 6) (sm (fun i => f2 43 i * (if i < L then f2 21 i else 0)) 6) (nI (lwo (wvl W' H' (f2 14)) W' H')) (nI (cg (fun x y => decide (f2 14 (12 * y + x) = 3)) W' H')) (nI (cg (fun x y => decide (f2 14 (12 * y + x) = 2)) W' H')) (bcI (g2 10) - bcI (g2 11)) (bcI (g2 10)) (nI (cg (fun x y => decide ((2 : Int32).toInt ≤ (f2 13 (12 * y + x)).toInt ∧ (f2 13 (12 * y + x)).toInt ≤ (2 : Int32).toInt)) W' H')) (nI (cg (fun x y => decide ((1 : Int32).toInt ≤ (f2 13 (12 * y + x)).toInt ∧ (f2 13 (12 * y + x)).toInt ≤ (1 : Int32).toInt)) W' H'))) rfl hr20 r1 (fun i hi Q hq => ?_) (r - i) i N rfl hi (by omega) ?_
    · obtain ⟨k, k1, k2⟩ := hkind i hi
      rw [k2]
      rw [k2] at hq
      exact q_brC (by omega) v4 v5 hW hH hL l1 k1 hq
    -- the model
    unfold wX12_broken
    rintro _ rfl
    refine ⟨fun _ => ?_, fun c => absurd (by rw [le_I, z_0]; exact ha) c⟩
    refine q_pourI hN hW hH t2 t3 hS2 hF2 hI2 (fun A B hB hI3 => ?_)
    have t2'' : (va_up gT 0 0) 2 = nI W' := t2
    have t3'' : (va_up gT 0 0) 3 = nI H' := t3
    refine q_drawOff (W := W') (H := H') (S := f2 13) (by omega) t2'' t3'' hW hH hS2 (fun g3 f3 m' hFR c1 c2 c3 c4 c5 c6 => ?_)
    have em : m' = m := sp_uniq c2 c3 mp mz
    subst em
    have gg : ∀ j, j ≠ 13 → j ≠ 14 → j ≠ 0 → g3 j = gT j := fun j d1 d2 d3 => (hFR.1 j d1 d2).trans (up_n _ _ d3)
    have fg : ∀ j, j ≠ 3 → j ≠ 4 → j ≠ 5 → j ≠ 6 → j ≠ 7 → j ≠ 8 → f3 j = fT j := fun j d1 d2 d3 d4 d5 d6 => (hFR.2 j d3 d4 d5 d6).trans (fj_n _ _ _ d2 d1)
    have f3B : f3 3 = B := hFR.2 3 (by decide) (by decide) (by decide) (by decide)
    have e1 : f3 1 = fT 1 := fg 1 (by decide) (by decide) (by decide) (by decide) (by decide) (by decide)
    have e9 : f3 9 = fT 9 := fg 9 (by decide) (by decide) (by decide) (by decide) (by decide) (by decide)
    have e10 : f3 10 = fT 10 := fg 10 (by decide) (by decide) (by decide) (by decide) (by decide) (by decide)
    have e13 : f3 13 = fT 13 := fg 13 (by decide) (by decide) (by decide) (by decide) (by decide) (by decide)
    have e16 : f3 16 = fT 16 := fg 16 (by decide) (by decide) (by decide) (by decide) (by decide) (by decide)
    have e17 : f3 17 = fT 17 := fg 17 (by decide) (by decide) (by decide) (by decide) (by decide) (by decide)
    have e18 : f3 18 = fT 18 := fg 18 (by decide) (by decide) (by decide) (by decide) (by decide) (by decide)
    have hInv : InvP (GCg SPd) (n + 1) g2 f2 g3 f3 wT := by
      refine inv_tr hI2 (fun _ _ => rfl) (fun _ _ => rfl) (fun j hj => gg j (by omega) (by omega) (by omega)) (fun j hj => fg j (by omega) (by omega) (by omega) (by omega) (by omega) (by omega)) ?_ ?_
      · rw [gg 1 (by decide) (by decide) (by decide)]; exact hI2.2.2.2.2.2.1.1
      · exact GCk (GCg_ok SPd) hI2.2.2.2.2.2.2 ⟨rfl, rfl, rfl, rfl, rfl, rfl, rfl⟩ ⟨rfl, rfl, rfl, rfl, rfl, rfl, rfl, rfl⟩ ⟨gg 2 (by decide) (by decide) (by decide), gg 3 (by decide) (by decide) (by decide), gg 6 (by decide) (by decide) (by decide)⟩ ⟨e1, fg 2 (by decide) (by decide) (by decide) (by decide) (by decide) (by decide)⟩
    have w2 : g3 2 = nI W' := (gg 2 (by decide) (by decide) (by decide)).trans t2
    have w3 : g3 3 = nI H' := (gg 3 (by decide) (by decide) (by decide)).trans t3
    have w15 : g3 15 = nI L := (gg 15 (by decide) (by decide) (by decide)).trans l2
    have w24 : g3 24 = nI r := (gg 24 (by decide) (by decide) (by decide)).trans r2
    have w21 : g3 21 = gT 21 := gg 21 (by decide) (by decide) (by decide)
    -- what both count
    have q1 : lwo (wvl W' H' (f2 14)) W' H' = lwo (wvl W' H' (f3 3)) W' H' := by rw [f3B]; exact lwo_c (fun x y hx hy => wvl_c hB hx hy)
    have q2 : cg (fun x y => decide (f2 14 (12 * y + x) = 3)) W' H' = cg (cpd 2 (f3 1) (f3 3)) W' H' := by
      rw [f3B]
      refine cg_c (fun x y hx hy => ?_)
      unfold cpd
      rw [if_neg (by decide), if_neg (by decide), if_pos rfl, hB x y hx hy]
    have q3 : cg (fun x y => decide (f2 14 (12 * y + x) = 2)) W' H' = cg (cpd 1 (f3 1) (f3 3)) W' H' := by
      rw [f3B]
      refine cg_c (fun x y hx hy => ?_)
      unfold cpd
      rw [if_neg (by decide), if_pos rfl, hB x y hx hy]
    have q4 : cg (fun x y => decide ((2 : Int32).toInt ≤ (f2 13 (12 * y + x)).toInt ∧ (f2 13 (12 * y + x)).toInt ≤ (2 : Int32).toInt)) W' H' = cg (cpd 4 (f3 1) (f3 3)) W' H' := by
      rw [e1]
      refine cg_c (fun x y hx hy => ?_)
      unfold cpd
      rw [if_neg (by decide), if_neg (by decide), if_neg (by decide), if_neg (by decide), if_pos rfl, (hS2 (12 * y + x) (by omega)).1, decide_eq_decide, eq_I]
      omega
    have q5 : cg (fun x y => decide ((1 : Int32).toInt ≤ (f2 13 (12 * y + x)).toInt ∧ (f2 13 (12 * y + x)).toInt ≤ (1 : Int32).toInt)) W' H' = cg (cpd 3 (f3 1) (f3 3)) W' H' := by
      rw [e1]
      refine cg_c (fun x y hx hy => ?_)
      unfold cpd
      rw [if_neg (by decide), if_neg (by decide), if_neg (by decide), if_pos rfl, (hS2 (12 * y + x) (by omega)).1, decide_eq_decide, eq_I]
      omega
    rw [q1, q2, q3, q4, q5, hthere, hgone, ← c5, ← c4]
    -- the mix
    have sums : ∃ nn : Nat, ((g3 21 = -1 ∧ sm (f2 43) 6 = 0) ∨ (1 ≤ nn ∧ nn ≤ 40 ∧ g3 21 = nI nn ∧ sm (f2 43) 6 = nI nn ∧ sm (f2 43) 6 = sm (f3 13) L)) ∧ ∀ k a c x1 x2 x3 x4 x5 x6 x7 : Int32, brk k a c (sm (f2 43) 6) (sm (fun i => f2 43 i * (if i < L then f2 20 i else 0)) 6) (sm (fun i => f2 43 i * (if i < L then f2 21 i else 0)) 6) x1 x2 x3 x4 x5 x6 x7 = brk k a c (sm (f2 43) 6) (sm (fun l => f3 13 l * f3 9 l) L) (sm (fun l => f3 13 l * f3 10 l) L) x1 x2 x3 x4 x5 x6 x7 := by
      rcases iB with ⟨b1, b2⟩ | ⟨nn, b1, b2, b3, b4, b5, b6⟩
      · refine ⟨0, Or.inl ⟨w21.trans b1, sm_0 b2⟩, fun k a c x1 x2 x3 x4 x5 x6 x7 => ?_⟩
        rw [sm_0 b2]; exact brk_0
      · have hs := sm_n b2 (fun i hi => (b4 i hi).2) b5
        have lI : (g2 13).toInt = (L : Int) := by rw [l1, nI_I (by omega)]
        have hk : ∀ l, l < L → f3 13 l = f2 43 l := fun l hl' => by rw [e13]; exact (b4 l (by omega)).1
        refine ⟨nn, Or.inr ⟨b1, b2, w21.trans b3, hs, ?_⟩, fun k a c x1 x2 x3 x4 x5 x6 x7 => ?_⟩
        · rw [sm_z6 hL (fun i hi hj => b6 i hi (by rw [lI]; omega))]
          exact sm_c (fun l hl' => (hk l hl').symm)
        · have s1 : sm (fun i => f2 43 i * (if i < L then f2 20 i else 0)) 6 = sm (fun l => f3 13 l * f3 9 l) L := by
            rw [sm_z6 hL (fun i hi hj => by rw [if_neg (by omega), Int32.mul_zero])]
            exact sm_c (fun l hl' => by rw [if_pos hl', hk l hl', e9, (hl l hl').1.1])
          have s2 : sm (fun i => f2 43 i * (if i < L then f2 21 i else 0)) 6 = sm (fun l => f3 13 l * f3 10 l) L := by
            rw [sm_z6 hL (fun i hi hj => by rw [if_neg (by omega), Int32.mul_zero])]
            exact sm_c (fun l hl' => by rw [if_pos hl', hk l hl', e10, (hl l hl').1.2.1])
          rw [s1, s2]
    obtain ⟨nn, htot, hbrk⟩ := sums
    refine q_brML (P := fun i => brk (f3 16 i) (f3 17 i) (f3 18 i) (sm (f2 43) 6) (sm (fun l => f3 13 l * f3 9 l) L) (sm (fun l => f3 13 l * f3 10 l) L) (nI (lwo (wvl W' H' (f3 3)) W' H')) (nI (cg (cpd 2 (f3 1) (f3 3)) W' H')) (nI (cg (cpd 1 (f3 1) (f3 3)) W' H')) (g3 14 - g3 13) (g3 14) (nI (cg (cpd 4 (f3 1) (f3 3)) W' H')) (nI (cg (cpd 3 (f3 1) (f3 3)) W' H'))) hr20 w24 (fun i hi Q hq => ?_) (r - i) i N rfl hi (by omega) ⟨?_, hInv⟩
    · obtain ⟨k, k1, k2⟩ := hkind i hi
      have k3 : f3 16 i = nI k := by rw [e16, (hrr i hi).1.1]; exact k2
      rw [k3] at hq
      exact q_brM (n := nn) (by omega) w2 w3 hW hH hL w15 (by omega) k1 k3 htot hq
    · unfold fbr
      rw [ff_c (r - i) i (fun k h1 h2 => ?_)]
      have hk : k < r := by omega
      rw [hbrk, e16, e17, e18, (hrr k hk).1.1, (hrr k hk).1.2.1, (hrr k hk).1.2.2]
  · unfold wX12_broken
    rintro _ rfl
    exact ⟨fun c => absurd c ha, fun _ => ⟨rfl, hst⟩⟩
