/-! the pieces: what is in the way -/
abbrev ing (W H : Nat) (a b : Int) : Prop := 0 ≤ a ∧ a < W ∧ 0 ≤ b ∧ b < H
abbrev sv (S : Nat → Int32) (a b : Int) : Int32 := S (12 * b + a).toNat
abbrev dX (j : Nat) : Int := (gwx j).toInt
abbrev dY (j : Nat) : Int := (gwy j).toInt
theorem d_4 {j : Nat} (hj : j < 4) : (dX j = 1 ∧ dY j = 0) ∨ (dX j = 0 ∧ dY j = 1) ∨ (dX j = -1 ∧ dY j = 0) ∨ (dX j = 0 ∧ dY j = -1) := by
  have : j = 0 ∨ j = 1 ∨ j = 2 ∨ j = 3 := by omega
  rcases this with rfl | rfl | rfl | rfl <;> decide
theorem sv_n {S : Nat → Int32} (x y : Nat) : sv S x y = S (12 * y + x) := by
  unfold sv
  rw [show (12 * (y : Int) + (x : Int)).toNat = 12 * y + x by omega]
theorem q_srtI {N W H : Nat} {a b : Int32} {g : gFG} {f : gFF} {Q : Int32 → gFG → gFF → Prop} (h4 : g 4 = nI W) (h5 : g 5 = nI H) (hW : W ≤ 12) (hH : H ≤ 12) (h1 : ing W H a.toInt b.toInt → Q (sv (f 13) a.toInt b.toInt) g f) (h2 : ¬ ing W H a.toInt b.toInt → Q (-1) g f) : wX2_sortAt N a b g f Q := by
  cases hh : hasB (nI W) (nI H) a b with
  | false =>
    rw [q_srtO h4 h5 hh]
    rw [has_I hW hH] at hh
    exact h2 (of_decide_eq_false hh)
  | true =>
    have h3 := hh
    rw [has_I hW hH] at h3
    have h3 := of_decide_eq_true h3
    obtain ⟨x, y, hx, hy, rfl, rfl⟩ := has_ex hW hH hh
    rw [q_srtN h4 h5 hW hH hx hy]
    have := h1 h3
    rw [nI_I (by omega), nI_I (by omega), sv_n] at this
    exact this
/-- which bit a sort sets -/
def mb (v : Int32) (q : Nat) : Prop := (q < 8 ∧ v = nI (10 + q)) ∨ (isClayB v = false ∧ v ≠ 3 ∧ v ≠ 4 ∧ q = 8)
theorem clay_ex {v : Int32} (h : isClayB v = true) : ∃ p, p < 8 ∧ v = nI (10 + p) := by
  have h2 := of_decide_eq_true h
  refine ⟨(v.toInt - 10).toNat, by omega, ?_⟩
  rw [eq_I, nI_I (by omega)]; omega
theorem clay_n {p : Nat} (hp : p < 8) : isClayB (nI (10 + p)) = true := by
  unfold isClayB
  rw [nI_I (by omega)]; exact decide_eq_true (by omega)
theorem bt_shl (p q : Nat) (hp : p < 32) (hq : q < 32) : bt (1 <<< (nI p &&& 31)) q = decide (q = p) := by
  rw [b_shl p hp 1 hq]
  have : ∀ i, i < 32 → bt 1 i = decide (i = 0) := by decide +kernel
  by_cases h : p ≤ q
  · rw [decide_eq_true h, this _ (by omega)]
    by_cases e : q = p
    · rw [decide_eq_true e, decide_eq_true (by omega)]; rfl
    · rw [decide_eq_false e, decide_eq_false (by omega)]; rfl
  · rw [decide_eq_false h, decide_eq_false (by omega)]; rfl
theorem nI_sub10 (p : Nat) : nI (10 + p) - 10 = nI p := by
  have := nI_subn (a := 10) (b := 10 + p) (by omega)
  rw [show 10 + p - 10 = p by omega] at this
  exact this
theorem q_maskOf {N : Nat} {v : Int32} {g : gFG} {f : gFF} {Q : Int32 → gFG → gFF → Prop} (h : ∀ m, (∀ q, q < 32 → (bt m q = true ↔ mb v q)) → Q m g f) : wX8_maskOf N v g f Q := by
  unfold wX8_maskOf wX8_maskOf_j24
  rw [q_isClay]
  cases hc : isClayB v with
  | true =>
    refine ⟨fun c => absurd c (by decide), fun _ => h _ (fun q hq => ?_)⟩
    obtain ⟨p, hp, rfl⟩ := clay_ex hc
    rw [nI_sub10, bt_shl p q (by omega) hq, decide_eq_true_iff]
    unfold mb
    constructor
    · rintro rfl; exact Or.inl ⟨hp, rfl⟩
    · rintro (⟨h1, h2⟩ | ⟨h1, -⟩)
      · have := nI_inj (by omega) (by omega) h2; omega
      · rw [hc] at h1; contradiction
  | false =>
    have nop : ∀ q, q < 8 → ¬ v = nI (10 + q) := fun q hq e => by rw [e, clay_n hq] at hc; contradiction
    have b256 : ∀ q, q < 32 → bt 256 q = decide (q = 8) := by decide +kernel
    refine ⟨fun _ => ⟨fun c => h 0 (fun q hq => ?_), fun c => ⟨fun c4 => h 256 (fun q hq => ?_), fun c4 => h 0 (fun q hq => ?_)⟩⟩, fun c => absurd rfl c⟩
    · rw [b_0]
      unfold mb
      exact ⟨fun c => by contradiction, fun m => m.elim (fun m => absurd m.2 (nop q m.1)) (fun m => absurd c m.2.1)⟩
    · rw [b256 q hq, decide_eq_true_iff]
      unfold mb
      exact ⟨fun e => Or.inr ⟨hc, c, c4, e⟩, fun m => m.elim (fun m => absurd m.2 (nop q m.1)) (fun m => m.2.2.2)⟩
    · rw [b_0]
      unfold mb
      exact ⟨fun c => by contradiction, fun m => m.elim (fun m => absurd m.2 (nop q m.1)) (fun m => absurd c4 m.2.2.1)⟩
def AccM (M : Nat → Int32) (T : Nat → Nat → Nat → Prop) : Prop := ∀ p j q, p < 8 → j < 4 → q < 32 → (bt (M (4 * p + j)) q = true ↔ T p j q)
def AccT (th : Int32) (U : Nat → Prop) : Prop := ∀ q, q < 32 → (bt th q = true ↔ U q)
/-- met on the way from an edge -/
def CE (W H : Nat) (S : Nat → Int32) (ex ey : Int) (j p q : Nat) : Prop := ∃ s t : Nat, t < s ∧ ing W H (ex - s * dX j) (ey - s * dY j) ∧ sv S (ex - s * dX j) (ey - s * dY j) = nI (10 + p) ∧ mb (sv S (ex - t * dX j) (ey - t * dY j)) q
def UE (W H : Nat) (S : Nat → Int32) (ex ey : Int) (j q : Nat) : Prop := q < 8 ∧ ∃ s : Nat, ing W H (ex - s * dX j) (ey - s * dY j) ∧ sv S (ex - s * dX j) (ey - s * dY j) = nI (10 + q)
theorem ing_cv {W H j : Nat} {ex ey : Int} (hj : j < 4) {s r : Nat} (h0 : ing W H ex ey) (hs : ing W H (ex - s * dX j) (ey - s * dY j)) (hr : r ≤ s) : ing W H (ex - r * dX j) (ey - r * dY j) := by
  rcases d_4 hj with ⟨e1, e2⟩ | ⟨e1, e2⟩ | ⟨e1, e2⟩ | ⟨e1, e2⟩ <;> (rw [e1, e2] at hs ⊢; unfold ing at *; omega)
theorem ing_12 {W H j : Nat} {ex ey : Int} (hW : W ≤ 12) (hH : H ≤ 12) (hj : j < 4) {s : Nat} (h0 : ing W H ex ey) (hs : ing W H (ex - s * dX j) (ey - s * dY j)) : s < 12 := by
  rcases d_4 hj with ⟨e1, e2⟩ | ⟨e1, e2⟩ | ⟨e1, e2⟩ | ⟨e1, e2⟩ <;> (rw [e1, e2] at hs; unfold ing at *; omega)
theorem cm_I {x s : Nat} {d : Int32} (hx : x ≤ 12) (hs : s ≤ 12) (hd : -1 ≤ d.toInt ∧ d.toInt ≤ 1) : (nI x - nI s * d).toInt = (x : Int) - s * d.toInt := by
  have h0 := smul_r hs hd
  have h1 : (nI s * d).toInt = s * d.toInt := by
    rw [mul_I (by rw [nI_I (by omega)]; omega) (by rw [nI_I (by omega)]; omega), nI_I (by omega)]
  rw [sub_I (by rw [h1, nI_I (by omega)]; omega) (by rw [h1, nI_I (by omega)]; omega), h1, nI_I (by omega)]
theorem ing_lt {W H : Nat} {a b : Int} (hW : W ≤ 12) (hH : H ≤ 12) (h : ing W H a b) : (12 * b + a).toNat < 144 := by unfold ing at h; omega
theorem sort_m1 {v : Int32} (h : isSortB v = true) : ¬ v = -1 := by
  intro e; rw [e] at h; revert h; decide
theorem q_look {N W H j ex ey : Nat} {g : gFG} {f : gFF} {T : Nat → Nat → Nat → Prop} {U : Nat → Prop} {th0 : Int32} {M0 : Nat → Int32} {Q : gFG → gFF → Prop} (hN : 1000 ≤ N) (h4 : g 4 = nI W) (h5 : g 5 = nI H) (hW : W ≤ 12) (hH : H ≤ 12) (hj : j < 4) (hx : ex < W) (hy : ey < H) (hS : ∀ k, k < 144 → isSortB (f 13 k) = true) (hM : AccM M0 T) (hU : AccT th0 U) (h : ∀ th M, AccM M (fun p j' q => T p j' q ∨ (j' = j ∧ CE W H (f 13) ex ey j p q)) → AccT th (fun q => U q ∨ UE W H (f 13) ex ey j q) → Q (va_up g 10 th) (va_up f 17 M)) : wX8_lookBack N (nI ex) (nI ey) (nI j) (va_up g 10 th0) (va_up f 17 M0) Q := by
  obtain ⟨r1, r2⟩ := gw_r j hj
  have hin : vp_in (nI j) 4 := vp_in_nI hj (by decide)
  have hE : ing W H (ex : Int) (ey : Int) := by unfold ing; omega
  have key : ∀ m s fu (v4 th : Int32) (M : Nat → Int32), s + m = 12 → m < fu → (∀ r : Nat, r < s → ing W H ((ex : Int) - r * dX j) ((ey : Int) - r * dY j)) → (∀ q, q < 32 → (bt v4 q = true ↔ ∃ t : Nat, t < s ∧ mb (sv (f 13) ((ex : Int) - t * dX j) ((ey : Int) - t * dY j)) q)) → AccM M (fun p j' q => T p j' q ∨ (j' = j ∧ ∃ s' t : Nat, s' < s ∧ t < s' ∧ sv (f 13) ((ex : Int) - s' * dX j) ((ey : Int) - s' * dY j) = nI (10 + p) ∧ mb (sv (f 13) ((ex : Int) - t * dX j) ((ey : Int) - t * dY j)) q)) → AccT th (fun q => U q ∨ (q < 8 ∧ ∃ s' : Nat, s' < s ∧ sv (f 13) ((ex : Int) - s' * dX j) ((ey : Int) - s' * dY j) = nI (10 + q))) → wX8_lookBack_l6 N (nI ex) (nI ey) (nI j) Q fu v4 (nI s) (va_up g 10 th) (va_up f 17 M) := by
    intro m
    -- the end
    have fin : ∀ s (th : Int32) (M : Nat → Int32), (∀ r : Nat, r < s → ing W H ((ex : Int) - r * dX j) ((ey : Int) - r * dY j)) → (∀ s' : Nat, ing W H ((ex : Int) - s' * dX j) ((ey : Int) - s' * dY j) → s' < s) → AccM M (fun p j' q => T p j' q ∨ (j' = j ∧ ∃ s' t : Nat, s' < s ∧ t < s' ∧ sv (f 13) ((ex : Int) - s' * dX j) ((ey : Int) - s' * dY j) = nI (10 + p) ∧ mb (sv (f 13) ((ex : Int) - t * dX j) ((ey : Int) - t * dY j)) q)) → AccT th (fun q => U q ∨ (q < 8 ∧ ∃ s' : Nat, s' < s ∧ sv (f 13) ((ex : Int) - s' * dX j) ((ey : Int) - s' * dY j) = nI (10 + q))) → Q (va_up g 10 th) (va_up f 17 M) := by
      intro s th M hg hl hM' hU'
      refine h th M (fun p j' q a1 a2 a3 => (hM' p j' q a1 a2 a3).trans ?_) (fun q a1 => (hU' q a1).trans ?_)
      · constructor
        · rintro (c | ⟨c, s', t, b1, b2, b3, b4⟩)
          · exact Or.inl c
          · exact Or.inr ⟨c, s', t, b2, hg s' b1, b3, b4⟩
        · rintro (c | ⟨c, s', t, b2, b1, b3, b4⟩)
          · exact Or.inl c
          · exact Or.inr ⟨c, s', t, hl s' b1, b2, b3, b4⟩
      · constructor
        · rintro (c | ⟨c, s', b1, b2⟩)
          · exact Or.inl c
          · exact Or.inr ⟨c, s', hg s' b1, b2⟩
        · rintro (c | ⟨c, s', b1, b2⟩)
          · exact Or.inl c
          · exact Or.inr ⟨c, s', hl s' b1, b2⟩
    induction m with
    | zero =>
      intro s fu v4 th M h1 h2 hg hv hM' hU'
      obtain ⟨fu, rfl⟩ : ∃ k, fu = k + 1 := ⟨fu - 1, by omega⟩
      have : s = 12 := by omega
      subst this
      unfold wX8_lookBack_l6
      exact ⟨fun _ => fin 12 th M hg (fun s' hs' => ing_12 hW hH hj hE hs') hM' hU', fun c => absurd (nI_le (Nat.le_refl 12) (by decide)) c⟩
    | succ m ih =>
      intro s fu v4 th M h1 h2 hg hv hM' hU'
      obtain ⟨fu, rfl⟩ : ∃ k, fu = k + 1 := ⟨fu - 1, by omega⟩
      unfold wX8_lookBack_l6
      refine ⟨fun c => absurd c (nI_ge (show s < 12 by omega) (by decide)), fun _ => ⟨hin, hin, ?_⟩⟩
      rw [nI_clamp (show j < 2 ^ 31 by omega)]
      have f13 : (va_up f 17 M) 13 = f 13 := rfl
      have e1 : (nI ex - nI s * gwx j).toInt = (ex : Int) - s * dX j := cm_I (by omega) (by omega) r1
      have e2 : (nI ey - nI s * gwy j).toInt = (ey : Int) - s * dY j := cm_I (by omega) (by omega) r2
      refine q_srtI (W := W) (H := H) h4 h5 hW hH ?_ ?_
      · rw [e1, e2, f13]
        intro hing
        have hsort := hS _ (ing_lt hW hH hing)
        have hn1 : ¬ sv (f 13) ((ex : Int) - s * dX j) ((ey : Int) - s * dY j) = -1 := sort_m1 hsort
        refine ⟨fun _ => ?_, fun c => absurd c hn1⟩
        generalize hvv : sv (f 13) ((ex : Int) - s * dX j) ((ey : Int) - s * dY j) = vv at hsort hn1
        rw [q_isClay]
        -- going on
        have on : ∀ (th' : Int32) (M' : Nat → Int32), AccM M' (fun p j' q => T p j' q ∨ (j' = j ∧ ∃ s' t : Nat, s' < s + 1 ∧ t < s' ∧ sv (f 13) ((ex : Int) - s' * dX j) ((ey : Int) - s' * dY j) = nI (10 + p) ∧ mb (sv (f 13) ((ex : Int) - t * dX j) ((ey : Int) - t * dY j)) q)) → AccT th' (fun q => U q ∨ (q < 8 ∧ ∃ s' : Nat, s' < s + 1 ∧ sv (f 13) ((ex : Int) - s' * dX j) ((ey : Int) - s' * dY j) = nI (10 + q))) → wX8_lookBack_j94 N (wX8_lookBack_l6 N (nI ex) (nI ey) (nI j) Q fu) Q (nI ex) (nI ey) (nI j) v4 (nI s) vv (va_up g 10 th') (va_up f 17 M') := by
          intro th' M' hM2 hU2
          unfold wX8_lookBack_j94
          refine q_maskOf (fun mk hmk => ?_)
          rintro _ rfl _ rfl
          rw [nI_1]
          refine ih (s + 1) fu (v4 ||| mk) th' M' (by omega) (by omega) (fun r hr => ?_) (fun q hq => ?_) hM2 hU2
          · by_cases e : r = s
            · rw [e]; exact hing
            · exact hg r (by omega)
          · rw [b_or, Bool.or_eq_true, hv q hq, hmk q hq, ← hvv]
            constructor
            · rintro (⟨t, t1, t2⟩ | t2)
              · exact ⟨t, by omega, t2⟩
              · exact ⟨s, by omega, t2⟩
            · rintro ⟨t, t1, t2⟩
              by_cases e : t = s
              · rw [e] at t2; exact Or.inr t2
              · exact Or.inl ⟨t, by omega, t2⟩
        cases hc : isClayB vv with
        | false =>
          have nop : ∀ q, q < 8 → ¬ vv = nI (10 + q) := fun q hq e => by rw [e, clay_n hq] at hc; contradiction
          refine ⟨fun _ => on th M (fun p j' q a1 a2 a3 => (hM' p j' q a1 a2 a3).trans ?_) (fun q a1 => (hU' q a1).trans ?_), fun c => absurd rfl c⟩
          · constructor
            · rintro (c | ⟨c, s', t, b1, b2⟩)
              · exact Or.inl c
              · exact Or.inr ⟨c, s', t, by omega, b2⟩
            · rintro (c | ⟨c, s', t, b1, b2, b3, b4⟩)
              · exact Or.inl c
              · by_cases e : s' = s
                · rw [e, hvv] at b3; exact absurd b3 (nop p a1)
                · exact Or.inr ⟨c, s', t, by omega, b2, b3, b4⟩
          · constructor
            · rintro (c | ⟨c, s', b1, b2⟩)
              · exact Or.inl c
              · exact Or.inr ⟨c, s', by omega, b2⟩
            · rintro (c | ⟨c, s', b1, b2⟩)
              · exact Or.inl c
              · by_cases e : s' = s
                · rw [e, hvv] at b2; exact absurd b2 (nop q c)
                · exact Or.inr ⟨c, s', by omega, b2⟩
        | true =>
          obtain ⟨p0, hp0, hpv⟩ := clay_ex hc
          refine ⟨fun c => absurd c (by decide), fun _ => ?_⟩
          have hi : (vv - 10) * 4 + nI j = nI (4 * p0 + j) := by
            rw [hpv, nI_sub10]
            have : nI p0 * nI 4 = nI (p0 * 4) := (Int32.ofNat_mul p0 4).symm
            have e4 : nI p0 * 4 = nI (4 * p0) := by rw [Nat.mul_comm] at this; exact this
            rw [e4, nI_add]
          have f17 : (va_up f 17 M) 17 = M := rfl
          have g10 : (va_up g 10 th) 10 = th := rfl
          rw [hi]
          simp only [forall_eq, nI_clamp (show 4 * p0 + j < 2 ^ 31 by omega), f17, g10, up_up]
          have hin3 : vp_in (nI (4 * p0 + j)) 32 := vp_in_nI (by omega) (by decide)
          refine ⟨hin3, hin3, on _ _ (fun p j' q a1 a2 a3 => ?_) (fun q a1 => ?_)⟩
          · by_cases e : p = p0 ∧ j' = j
            · obtain ⟨rfl, rfl⟩ := e
              rw [upd_at, b_or, Bool.or_eq_true, hM' p j' q a1 a2 a3, hv q a3]
              constructor
              · rintro ((c | ⟨c, s', t, b1, b2⟩) | ⟨t, t1, t2⟩)
                · exact Or.inl c
                · exact Or.inr ⟨c, s', t, by omega, b2⟩
                · exact Or.inr ⟨rfl, s, t, by omega, t1, hvv.trans hpv, t2⟩
              · rintro (c | ⟨c, s', t, b1, b2, b3, b4⟩)
                · exact Or.inl (Or.inl c)
                · by_cases e : s' = s
                  · rw [e] at b2; exact Or.inr ⟨t, b2, b4⟩
                  · exact Or.inl (Or.inr ⟨c, s', t, by omega, b2, b3, b4⟩)
            · rw [upd_ne _ _ (by omega), hM' p j' q a1 a2 a3]
              constructor
              · rintro (c | ⟨c, s', t, b1, b2⟩)
                · exact Or.inl c
                · exact Or.inr ⟨c, s', t, by omega, b2⟩
              · rintro (c | ⟨c, s', t, b1, b2, b3, b4⟩)
                · exact Or.inl c
                · by_cases e2 : s' = s
                  · rw [e2, hvv, hpv] at b3
                    have := nI_inj (by omega) (by omega) b3
                    exact absurd ⟨by omega, c⟩ e
                  · exact Or.inr ⟨c, s', t, by omega, b2, b3, b4⟩
          · rw [b_or, Bool.or_eq_true, hU' q a1, hpv, nI_sub10, bt_shl p0 q (by omega) a1, decide_eq_true_iff]
            constructor
            · rintro ((c | ⟨c, s', b1, b2⟩) | e)
              · exact Or.inl c
              · exact Or.inr ⟨c, s', by omega, b2⟩
              · exact Or.inr ⟨by omega, s, by omega, by rw [hvv, hpv, e]⟩
            · rintro (c | ⟨c, s', b1, b2⟩)
              · exact Or.inl (Or.inl c)
              · by_cases e : s' = s
                · rw [e, hvv, hpv] at b2
                  have := nI_inj (by omega) (by omega) b2
                  exact Or.inr (by omega)
                · exact Or.inl (Or.inr ⟨c, s', by omega, b2⟩)
      · rw [e1, e2]
        intro hno
        refine ⟨fun c => absurd rfl c, fun _ => fin s th M hg (fun s' hs' => ?_) hM' hU'⟩
        by_cases c : s' < s
        · exact c
        · exact absurd (ing_cv hj hE hs' (show s ≤ s' by omega)) hno
  unfold wX8_lookBack
  refine key 12 0 N 0 th0 M0 rfl (by omega) (fun r hr => absurd hr (by omega)) (fun q hq => ?_) (fun p j' q a1 a2 a3 => (hM p j' q a1 a2 a3).trans ?_) (fun q a1 => (hU q a1).trans ?_)
  · rw [b_0]
    exact ⟨fun c => by contradiction, fun ⟨t, t1, _⟩ => absurd t1 (by omega)⟩
  · exact ⟨fun c => Or.inl c, fun c => c.elim id (fun ⟨_, s', _, b1, _⟩ => absurd b1 (by omega))⟩
  · exact ⟨fun c => Or.inl c, fun c => c.elim id (fun ⟨_, s', b1, _⟩ => absurd b1 (by omega))⟩
