/-! the model's order; off -/
theorem lpV {β : Type} (F : Nat → Nat → β → Prop) (I : Nat → β → Prop) (W : Nat) (hl : ∀ n b, I W b → F (n + 1) W b) (hs : ∀ n x b, x < W → W - x ≤ n → I x b → (∀ b', I (x + 1) b' → F n (x + 1) b') → F (n + 1) x b) : ∀ x n b, x ≤ W → W - x < n → I x b → F n x b := by
  intro x
  have key : ∀ d x n b, W - x = d → x ≤ W → W - x < n → I x b → F n x b := by
    intro d
    induction d with
    | zero =>
      intro x n b h1 h2 h3 hi
      obtain ⟨n, rfl⟩ : ∃ k, n = k + 1 := ⟨n - 1, by omega⟩
      have : x = W := by omega
      subst this
      exact hl n b hi
    | succ d ih =>
      intro x n b h1 h2 h3 hi
      obtain ⟨n, rfl⟩ : ∃ k, n = k + 1 := ⟨n - 1, by omega⟩
      exact hs n x b (by omega) (by omega) hi (fun b' hb' => ih (x + 1) n b' (by omega) (by omega) (by omega) hb')
  intro n b h1 h2 h3
  exact key _ x n b rfl h1 h2 h3
def FR (g0 : gFG) (f0 : gFF) (g : gFG) (f : gFF) : Prop := (∀ j, j ≠ 13 → j ≠ 14 → g j = g0 j) ∧ ∀ j, j ≠ 5 → j ≠ 6 → j ≠ 7 → j ≠ 8 → f j = f0 j
theorem q_passO {N W H n : Nat} {S : Nat → Int32} {G : Nat → Bool} {g : gFG} {f : gFF} {w : Int64} {K122 : Int32 → gFG → gFF → Int64 → Prop} {Q : gFG → gFF → Int64 → Prop} (hN : 1000 ≤ N) (h2 : g 2 = nI W) (h3 : g 3 = nI H) (hW : W ≤ 12) (hH : H ≤ 12) (hS : ∀ k, k < 144 → f 1 k = S k ∧ isSortB (S k) = true) (hT : ∀ q, q < 8 → f 5 q = bi (pb (thP W H S q))) (hG : ∀ q, q < 8 → f 6 q = bi (G q)) (h13 : g 13 = nI n) (hn : nxt W H S G < 32 → n < 8) (k1 : ∀ j, nxt W H S G = j → j < 32 → K122 1 (va_up g 13 (nI (n + 1))) (va_up (va_up (va_up f 6 (upd (f 6) (j / 4) 1)) 7 (upd (f 7) n (nI (j / 4)))) 8 (upd (f 8) n (nI (j % 4)))) w) (k0 : nxt W H S G = 32 → K122 0 g f w) : wX12_drawOff_l130 N K122 Q N 0 0 g f w := by
  refine lpV (β := Unit) (fun fu p _ => wX12_drawOff_l130 N K122 Q fu 0 (nI p) g f w) (fun p _ => ∀ k, k < 4 * p → Pb W H S G k = false) 8 ?_ ?_ 0 N () (by omega) (by omega) (fun k hk => absurd hk (by omega))
  · intro fu _ hb
    unfold wX12_drawOff_l130 wX12_drawOff_j229
    exact ⟨fun _ => k0 (nxt_no hb), fun c => absurd (nI_le (Nat.le_refl 8) (by decide)) c⟩
  · intro fu p _ hp hfu hb ih
    obtain ⟨fu2, rfl⟩ : ∃ k, fu = k + 1 := ⟨fu - 1, by omega⟩
    unfold wX12_drawOff_l130
    refine ⟨fun c => absurd c (nI_ge hp (by decide)), fun _ => ⟨fun c => absurd rfl c, fun _ => ?_⟩⟩
    have hin : vp_in (nI p) 8 := vp_in_nI hp (by decide)
    refine lpV (β := Unit) (fun m j _ => wX12_drawOff_l142 N (nI p) K122 (wX12_drawOff_l130 N K122 Q (fu2 + 1)) Q m 0 (nI j) g f w) (fun j _ => ∀ k, k < 4 * p + j → Pb W H S G k = false) 4 ?_ ?_ 0 N () (by omega) (by omega) hb
    · intro m _ hb2
      unfold wX12_drawOff_l142 wX12_drawOff_j223
      refine ⟨fun _ => ?_, fun c => absurd (nI_le (Nat.le_refl 4) (by decide)) c⟩
      rintro _ rfl
      rw [nI_1]
      exact ih () (fun k hk => hb2 k (by omega))
    · intro m j _ hj hm hb2 ih2
      obtain ⟨m2, rfl⟩ : ∃ k, m = k + 1 := ⟨m - 1, by omega⟩
      have skip : Pb W H S G (4 * p + j) = false → wX12_drawOff_j217 N K122 (wX12_drawOff_l130 N K122 Q (fu2 + 1)) (wX12_drawOff_l142 N (nI p) K122 (wX12_drawOff_l130 N K122 Q (fu2 + 1)) Q (m2 + 1)) Q 0 (nI p) (nI j) g f w := by
        intro hpb
        unfold wX12_drawOff_j217
        rintro _ rfl
        rw [nI_1]
        refine ih2 () (fun k hk => ?_)
        by_cases e : k = 4 * p + j
        · rw [e]; exact hpb
        · exact hb2 k (by omega)
      have hpbi : Pb W H S G (4 * p + j) = pb (thP W H S p ∧ G p = false ∧ canP W H S p j G) := by
        unfold Pb
        rw [show (4 * p + j) / 4 = p by omega, show (4 * p + j) % 4 = j by omega]
      unfold wX12_drawOff_l142
      refine ⟨fun c => absurd c (nI_ge hj (by decide)), fun _ => ⟨fun c => absurd rfl c, fun _ => ⟨hin, ?_⟩⟩⟩
      rw [nI_clamp (show p < 2 ^ 31 by omega), hT p hp, hG p hp, bi_0, bi_0]
      refine ⟨fun c => skip (by rw [hpbi]; exact pb_f.mpr (fun q => pb_f.mp c q.1)), fun c => ⟨hin, fun c2 => skip (by rw [hpbi]; exact pb_f.mpr (fun q => c2 q.2.1)), fun c2 => ?_⟩⟩
      refine q_canGo hN h2 h3 hW hH hp hj hS hG ?_
      rw [bi_0]
      refine ⟨fun c3 => skip (by rw [hpbi]; exact pb_f.mpr (fun q => pb_f.mp c3 q.2.2)), fun c3 => ⟨hin, ?_⟩⟩
      have hth : thP W H S p := by
        cases hq : pb (thP W H S p) with
        | false => exact absurd hq c
        | true => exact pb_t.mp hq
      have hcp : canP W H S p j G := by
        cases hq : pb (canP W H S p j G) with
        | false => exact absurd hq c3
        | true => exact pb_t.mp hq
      have hnx : nxt W H S G = 4 * p + j := nxt_is (by omega) (by rw [hpbi]; exact pb_t.mpr ⟨hth, c2, hcp⟩) hb2
      have hn8 : n < 8 := hn (by rw [hnx]; omega)
      have hin2 : vp_in (nI n) 8 := vp_in_nI hn8 (by decide)
      have := k1 _ hnx (by omega)
      rw [show (4 * p + j) / 4 = p by omega, show (4 * p + j) % 4 = j by omega] at this
      simp only [forall_eq, h13, nI_1, nI_clamp (show n < 2 ^ 31 by omega), hin2, true_and, wX12_drawOff_j217, up_n _ _ (show (7 : Nat) ≠ 6 by decide), up_n _ _ (show (8 : Nat) ≠ 7 by decide), up_n _ _ (show (8 : Nat) ≠ 6 by decide)]
      have e1 : ¬ (1 : Int32) = 0 := by decide
      have out : wX12_drawOff_j223 N K122 (wX12_drawOff_l130 N K122 Q (fu2 + 1)) Q 1 (nI p) (va_up g 13 (nI (n + 1))) (va_up (va_up (va_up f 6 (upd (f 6) p 1)) 7 (upd (f 7) n (nI p))) 8 (upd (f 8) n (nI j))) w := by
        unfold wX12_drawOff_j223
        rintro _ rfl
        unfold wX12_drawOff_l130 wX12_drawOff_j229
        exact ⟨fun _ => this, fun _ => ⟨fun _ => this, fun c => absurd c e1⟩⟩
      unfold wX12_drawOff_l142
      exact ⟨fun _ => out, fun _ => ⟨fun _ => out, fun c => absurd c e1⟩⟩
theorem q_drawOff {N W H : Nat} {S : Nat → Int32} {g : gFG} {f : gFF} {w : Int64} {Q : gFG → gFF → Int64 → Prop} (hN : 1000 ≤ N) (h2 : g 2 = nI W) (h3 : g 3 = nI H) (hW : W ≤ 12) (hH : H ≤ 12) (hS : ∀ k, k < 144 → f 1 k = S k ∧ isSortB (S k) = true) (h : ∀ g' f' n, FR g f g' f' → n ≤ 8 → (∀ k, k < n → nxt W H S (Gs W H S k) < 32) → nxt W H S (Gs W H S n) = 32 → g' 13 = nI n → g' 14 = nI (cB (fun q => pb (thP W H S q)) 8) → (∀ k, k < n → f' 7 k = nI (nxt W H S (Gs W H S k) / 4) ∧ f' 8 k = nI (nxt W H S (Gs W H S k) % 4)) → Q g' f' w) : wX12_drawOff N g f w Q := by
  -- the passes
  have passes : ∀ d i fu g' f', i + d = 9 → d < fu → i ≤ 8 → FR g f g' f' → (∀ k, k < i → nxt W H S (Gs W H S k) < 32) → g' 13 = nI i → g' 14 = nI (cB (fun q => pb (thP W H S q)) 8) → (∀ q, q < 8 → f' 5 q = bi (pb (thP W H S q))) → (∀ q, q < 8 → f' 6 q = bi (Gs W H S i q)) → (∀ k, k < i → f' 7 k = nI (nxt W H S (Gs W H S k) / 4) ∧ f' 8 k = nI (nxt W H S (Gs W H S k) % 4)) → wX12_drawOff_l122 N Q (fu + 1) 1 g' f' w := by
    intro d
    induction d with
    | zero => intro i fu g' f' h1 h2 h3; omega
    | succ d ih =>
      intro i fu g' f' e1 e2 e3 hF hpre h13 h14 h5 h6 h78
      obtain ⟨fu, rfl⟩ : ∃ k, fu = k + 1 := ⟨fu - 1, by omega⟩
      have hlt : nxt W H S (Gs W H S i) < 32 → i < 8 := by
        intro q
        by_cases c : i = 8
        · subst c
          rw [Gs_8 hpre] at q; omega
        · omega
      unfold wX12_drawOff_l122
      refine ⟨fun c => absurd c (by decide), fun _ => ?_⟩
      refine q_passO (W := W) (H := H) (S := S) (G := Gs W H S i) (n := i) hN ((hF.1 2 (by decide) (by decide)).trans h2) ((hF.1 3 (by decide) (by decide)).trans h3) hW hH (by rw [hF.2 1 (by decide) (by decide) (by decide) (by decide)]; exact hS) h5 h6 h13 hlt (fun j hj hj32 => ?_) (fun hno => ?_)
      · have hi8 := hlt (by rw [hj]; exact hj32)
        by_cases hd : d = 0
        · omega
        refine ih (i + 1) fu _ _ (by omega) (by omega) (by omega) ⟨fun j' c1 c2 => (up_n _ _ c1).trans (hF.1 j' c1 c2), fun j' c1 c2 c3 c4 => (up_n _ _ c4).trans ((up_n _ _ c3).trans ((up_n _ _ c2).trans (hF.2 j' c1 c2 c3 c4)))⟩ (fun k hk => ?_) (up_s _ _ _) ((up_n _ _ (by decide)).trans h14) ?_ (fun q hq => ?_) (fun k hk => ?_)
        · by_cases e : k = i
          · rw [e, hj]; exact hj32
          · exact hpre k (by omega)
        · rw [up_n _ _ (by decide), up_n _ _ (by decide), up_n _ _ (by decide)]; exact h5
        · rw [up_n _ _ (by decide), up_n _ _ (by decide), up_s]
          show _ = bi (Gs W H S i q || decide (nxt W H S (Gs W H S i) < 32 ∧ q = nxt W H S (Gs W H S i) / 4))
          rw [hj]
          by_cases e : q = j / 4
          · rw [e, upd_at, decide_eq_true ⟨hj32, rfl⟩, Bool.or_true]; rfl
          · rw [upd_ne _ _ e, decide_eq_false (fun c => e c.2), Bool.or_false]; exact h6 q hq
        · rw [up_n _ _ (show (7 : Nat) ≠ 8 by decide), up_s, up_s]
          by_cases e : k = i
          · subst e
            rw [upd_at, upd_at, hj]; exact ⟨rfl, rfl⟩
          · rw [upd_ne _ _ e, upd_ne _ _ e]; exact h78 k (by omega)
      · unfold wX12_drawOff_l122
        exact ⟨fun _ => h g' f' i hF e3 hpre hno h13 h14 h78, fun c => absurd rfl c⟩
  -- which pieces are there
  have there : ∀ g1 f1, FR g f g1 f1 → g1 13 = 0 → g1 14 = 0 → (∀ q, q < 8 → f1 5 q = 0 ∧ f1 6 q = 0) → wX12_drawOff_l40 N Q N 0 g1 f1 w := by
    intro g1 f1 hF1 h13 h14 h56
    refine lpD (β := gFG × gFF) (fun fu y b => wX12_drawOff_l40 N Q fu (nI y) b.1 b.2 w) (fun fu y m x b => wX12_drawOff_l50 N (nI y) (wX12_drawOff_l40 N Q fu) Q m (nI x) b.1 b.2 w) (fun y x b => FR g f b.1 b.2 ∧ b.1 13 = 0 ∧ (∀ q, q < 8 → b.2 6 q = 0) ∧ ∃ t : Nat → Bool, (∀ q, q < 8 → b.2 5 q = bi (t q)) ∧ (∀ q, q < 8 → (t q = true ↔ ∃ x' y' : Nat, x' < W ∧ y' < H ∧ (y' < y ∨ (y' = y ∧ x' < x)) ∧ S (12 * y' + x') = nI (10 + q))) ∧ b.1 14 = nI (cB t 8)) 0 W H N (by omega) (by omega) ?_ ?_ ?_ ?_ 0 N (g1, f1) (by omega) (by omega) ⟨hF1, h13, fun q hq => (h56 q hq).2, fun _ => false, fun q hq => (h56 q hq).1, fun q hq => ⟨fun c => by contradiction, fun ⟨_, _, _, _, c, _⟩ => absurd c (by omega)⟩, h14⟩
    · rintro fu ⟨g2, f2⟩ ⟨hF, i13, i6, t, i5, it, i14⟩
      dsimp only at hF i13 i6 i5 i14 ⊢
      unfold wX12_drawOff_l40
      rw [(hF.1 3 (by decide) (by decide)).trans h3]
      refine ⟨fun _ => ?_, fun c => absurd (nI_le (Nat.le_refl H) (by omega)) c⟩
      have et : ∀ q, q < 8 → t q = pb (thP W H S q) := by
        intro q hq
        have : t q = true ↔ pb (thP W H S q) = true := by
          rw [it q hq, pb_t]
          constructor
          · rintro ⟨x', y', c1, c2, c3, c4⟩
            exact ⟨hq, x', y', c1, c2, c4⟩
          · rintro ⟨-, x', y', c1, c2, c4⟩
            exact ⟨x', y', c1, c2, Or.inl c2, c4⟩
        cases ht : t q <;> cases hpb : pb (thP W H S q) <;> simp_all
      obtain ⟨N2, hN2⟩ : ∃ k, N = k + 1 := ⟨N - 1, by omega⟩
      have hp := passes 9 0 N2 g2 f2 rfl (by omega) (by omega) hF (fun k hk => absurd hk (by omega)) i13 (by rw [i14, cB_c et]) (fun q hq => by rw [i5 q hq, et q hq]) (fun q hq => by rw [i6 q hq]; rfl) (fun k hk => absurd hk (by omega))
      rw [← hN2] at hp
      exact hp
    · rintro fu y ⟨g2, f2⟩ hy ⟨hF, -⟩ hi
      dsimp only at hF hi ⊢
      unfold wX12_drawOff_l40
      rw [(hF.1 3 (by decide) (by decide)).trans h3]
      exact ⟨fun c => absurd c (nI_ge hy (by omega)), fun _ => hi⟩
    · rintro fu y m ⟨g2, f2⟩ hy ⟨hF, i13, i6, t, i5, it, i14⟩ ih
      dsimp only at hF i13 i6 i5 i14 ⊢
      unfold wX12_drawOff_l50
      rw [(hF.1 2 (by decide) (by decide)).trans h2]
      refine ⟨fun _ => ?_, fun c => absurd (nI_le (Nat.le_refl W) (by omega)) c⟩
      rintro _ rfl
      rw [nI_1]
      refine ih (g2, f2) ⟨hF, i13, i6, t, i5, fun q hq => (it q hq).trans ⟨?_, ?_⟩, i14⟩
      · rintro ⟨x', y', c1, c2, c3, c4⟩
        exact ⟨x', y', c1, c2, by omega, c4⟩
      · rintro ⟨x', y', c1, c2, c3, c4⟩
        exact ⟨x', y', c1, c2, by omega, c4⟩
    · rintro fu y m x ⟨g2, f2⟩ hy _ hx ⟨hF, i13, i6, t, i5, it, i14⟩ ih
      dsimp only at hF i13 i6 i5 i14 ⊢
      unfold wX12_drawOff_l50
      rw [(hF.1 2 (by decide) (by decide)).trans h2]
      refine ⟨fun c => absurd c (nI_ge hx (by omega)), fun _ => ?_⟩
      rw [yx_I]
      rintro _ rfl
      refine ⟨vp_in_nI (by omega) (by decide), ?_⟩
      rw [nI_clamp (show 12 * y + x < 2 ^ 31 by omega), hF.2 1 (by decide) (by decide) (by decide) (by decide), (hS (12 * y + x) (by omega)).1]
      rintro _ rfl
      have hsort := (hS (12 * y + x) (by omega)).2
      have same : (∀ q, q < 8 → S (12 * y + x) = nI (10 + q) → t q = true) → wX12_drawOff_j108 N (wX12_drawOff_l40 N Q fu) (wX12_drawOff_l50 N (nI y) (wX12_drawOff_l40 N Q fu) Q m) Q (nI y) (nI x) g2 f2 w := by
        intro hq0
        unfold wX12_drawOff_j108
        rintro _ rfl
        rw [nI_1]
        refine ih (g2, f2) ⟨hF, i13, i6, t, i5, fun q hq => ⟨fun c => ?_, ?_⟩, i14⟩
        · obtain ⟨x', y', c1, c2, c3, c4⟩ := (it q hq).mp c
          exact ⟨x', y', c1, c2, by omega, c4⟩
        · rintro ⟨x', y', c1, c2, c3, c4⟩
          by_cases e : y' = y ∧ x' = x
          · obtain ⟨rfl, rfl⟩ := e; exact hq0 q hq c4
          · exact (it q hq).mpr ⟨x', y', c1, c2, by omega, c4⟩
      have e10 : (10 : Int32).toInt = 10 := rfl
      refine ⟨fun c => same (fun q hq e => ?_), fun c => ?_⟩
      · rw [e, lt_I, nI_I (by omega), e10] at c; omega
      · have hcl : isClayB (S (12 * y + x)) = true := by
          have h1 := of_decide_eq_true hsort
          rw [lt_I, e10] at c
          exact decide_eq_true (by omega)
        obtain ⟨p, hp, hpv⟩ := clay_ex hcl
        rw [hpv, nI_sub10]
        have hin : vp_in (nI p) 8 := vp_in_nI hp (by decide)
        rintro _ rfl
        refine ⟨hin, ?_⟩
        rw [nI_clamp (show p < 2 ^ 31 by omega), i5 p hp, bi_0]
        refine ⟨fun c2 => same (fun q hq e => ?_), fun c2 => ?_⟩
        · rw [hpv] at e
          have := nI_inj (by omega) (by omega) e
          have : p = q := by omega
          subst this
          simpa using c2
        · rintro _ rfl
          refine ⟨hin, ?_⟩
          rw [nI_clamp (show p < 2 ^ 31 by omega)]
          unfold wX12_drawOff_j108
          rintro _ rfl _ rfl _ rfl _ rfl
          rw [nI_1, i14, nI_1]
          refine ih (va_up g2 14 (nI (cB t 8 + 1)), va_up f2 5 (upd (f2 5) p 1)) ⟨⟨fun j' c1 c2 => (up_n _ _ c2).trans (hF.1 j' c1 c2), fun j' c1 c2 c3 c4 => (up_n _ _ c1).trans (hF.2 j' c1 c2 c3 c4)⟩, (up_n g2 (nI (cB t 8 + 1)) (show (13 : Nat) ≠ 14 by decide)).trans i13, fun q hq => ?_, fun q => t q || decide (q = p), fun q hq => ?_, fun q hq => ?_, ?_⟩
          · show (va_up f2 5 (upd (f2 5) p 1)) 6 q = 0
            rw [up_n _ _ (by decide)]; exact i6 q hq
          · show (va_up f2 5 (upd (f2 5) p 1)) 5 q = bi (t q || decide (q = p))
            rw [up_s]
            by_cases e : q = p
            · rw [e, upd_at]; simp [bi]
            · rw [upd_ne _ _ e, decide_eq_false e, Bool.or_false]; exact i5 q hq
          · rw [Bool.or_eq_true, decide_eq_true_iff]
            constructor
            · rintro (c | rfl)
              · obtain ⟨x', y', c1, c2, c3, c4⟩ := (it q hq).mp c
                exact ⟨x', y', c1, c2, by omega, c4⟩
              · exact ⟨x, y, hx, hy, by omega, hpv⟩
            · rintro ⟨x', y', c1, c2, c3, c4⟩
              by_cases e : y' = y ∧ x' = x
              · obtain ⟨rfl, rfl⟩ := e
                rw [hpv] at c4
                have := nI_inj (by omega) (by omega) c4
                exact Or.inr (by omega)
              · exact Or.inl ((it q hq).mpr ⟨x', y', c1, c2, by omega, c4⟩)
          · show (va_up g2 14 (nI (cB t 8 + 1))) 14 = nI (cB (fun q => t q || decide (q = p)) 8)
            rw [up_s, cB_up hp c2]
  unfold wX12_drawOff
  rintro _ rfl _ rfl
  refine lpU (β := gFF) (fun fu x f1 => wX12_drawOff_l12 N Q fu (nI x) (va_up (va_up g 14 0) 13 0) f1 w) (fun x f1 => (∀ j, j ≠ 5 → j ≠ 6 → j ≠ 7 → j ≠ 8 → f1 j = f j) ∧ ∀ q, q < x → f1 5 q = 0 ∧ f1 6 q = 0) 8 ?_ ?_ 0 N f (by omega) (by omega) ⟨fun _ _ _ _ _ => rfl, fun q hq => absurd hq (by omega)⟩
  · intro fu f1 ⟨i1, i2⟩
    unfold wX12_drawOff_l12
    refine ⟨fun _ => there _ f1 ⟨fun j c1 c2 => (up_n _ _ c1).trans (up_n _ _ c2), i1⟩ rfl rfl i2, fun c => absurd (nI_le (Nat.le_refl 8) (by decide)) c⟩
  · intro fu x f1 hx ⟨i1, i2⟩ ih
    have hin : vp_in (nI x) 8 := vp_in_nI hx (by decide)
    unfold wX12_drawOff_l12
    refine ⟨fun c => absurd c (nI_ge hx (by decide)), fun _ => ⟨hin, ?_⟩⟩
    rintro _ rfl
    refine ⟨hin, ?_⟩
    rintro _ rfl _ rfl
    rw [nI_1, nI_clamp (show x < 2 ^ 31 by omega)]
    refine ih _ ⟨fun j c1 c2 c3 c4 => (up_n _ _ c2).trans ((up_n _ _ c1).trans (i1 j c1 c2 c3 c4)), fun q hq => ?_⟩
    rw [up_n _ _ (show (5 : Nat) ≠ 6 by decide), up_s, up_s, up_n _ _ (show (6 : Nat) ≠ 5 by decide)]
    by_cases e : q = x
    · rw [e, upd_at, upd_at]; exact ⟨rfl, rfl⟩
    · rw [upd_ne _ _ e, upd_ne _ _ e]; exact i2 q (by omega)
/-! counting bits -/
def bcI (a : Int32) : Int32 :=
  let x1 := a - (((a.toUInt32 >>> ((1 : Int32).toUInt32 &&& Int32.toUInt32 31)).toInt32) &&& 1431655765)
  let x2 := (x1 &&& 858993459) + (((x1.toUInt32 >>> ((2 : Int32).toUInt32 &&& Int32.toUInt32 31)).toInt32) &&& 858993459)
  let x3 := (x2 + ((x2.toUInt32 >>> ((4 : Int32).toUInt32 &&& Int32.toUInt32 31)).toInt32)) &&& 252645135
  let x4 := x3 + ((x3.toUInt32 >>> ((8 : Int32).toUInt32 &&& Int32.toUInt32 31)).toInt32)
  let x5 := x4 + ((x4.toUInt32 >>> ((16 : Int32).toUInt32 &&& Int32.toUInt32 31)).toInt32)
  x5 &&& 63
theorem q_bc (N : Nat) (a : Int32) (g : gFG) (f : gFF) (Q : Int32 → gFG → gFF → Prop) : wJ6_bitCount_0f7a4 N a g f Q = Q (bcI a) g f := by
  simp only [wJ6_bitCount_0f7a4, forall_eq, bcI]
theorem bc_256 : ∀ j : Nat, j < 256 → bcI (nI j) = nI (cB (fun q => bt (nI j) q) 8) := by decide +kernel
theorem bc_A {th : Int32} {U : Nat → Prop} {b : Nat → Bool} (hA : AccT th U) (hU : ∀ q, q < 32 → U q → q < 8) (hb : ∀ q, q < 8 → (b q = true ↔ U q)) : bcI th = nI (cB b 8) := by
  have e1 : th = th &&& 255 := by
    apply b_ext
    intro i hi
    rw [b_and, b_255]
    by_cases c : i < 8
    · rw [decide_eq_true c, Bool.and_true]
    · rw [decide_eq_false c, Bool.and_false]
      cases ht : bt th i with
      | false => rfl
      | true => exact absurd (hU i hi ((hA i hi).mp ht)) c
  obtain ⟨j, hj, e2⟩ := pk_andE th (m := 255) 8 (by decide)
  have e3 : th = nI j := e1.trans e2
  rw [e3, bc_256 j hj]
  congr 1
  refine cB_c (fun q hq => ?_)
  have h1 := hA q (by omega)
  rw [e3] at h1
  have h2 := hb q hq
  exact Bool.eq_iff_iff.mpr (h1.trans h2.symm)
theorem sp_uniq {W H n n' : Nat} {S : Nat → Int32} (h1 : ∀ k, k < n → nxt W H S (Gs W H S k) < 32) (h2 : nxt W H S (Gs W H S n) = 32) (h3 : ∀ k, k < n' → nxt W H S (Gs W H S k) < 32) (h4 : nxt W H S (Gs W H S n') = 32) : n = n' := by
  rcases Nat.lt_trichotomy n n' with h | h | h
  · have := h3 n h; omega
  · exact h
  · have := h1 n' h; omega
theorem nxt_c {W H : Nat} (S : Nat → Int32) (G : Nat → Bool) : nxt W H S G ≤ 32 := by
  have := (ff_s (Pb W H S G) 32 0).1
  unfold nxt; omega
/-- refreshed -/
theorem q_stripI {N n : Nat} {gS gT : gFG} {fS fT : gFF} {w : Int64} {Q : gFG → gFF → Prop} (hN : 1000 ≤ N) (hI : InvP (GCg SPd) n gS fS gT fT w) (h : ∀ W H g' f', (2 ≤ W ∧ W ≤ 12 ∧ 2 ≤ H ∧ H ≤ 12) → (g' 4 = nI W ∧ g' 5 = nI H ∧ gT 2 = nI W ∧ gT 3 = nI H) → (∀ k, k < 144 → fT 1 k = f' 13 k ∧ isSortB (f' 13 k) = true) → SPd W H (f' 13) (g' 10) (g' 11) (f' 18) (f' 19) → InvP (GCg SPd) n g' f' gT fT w → (∀ j, j ≠ 10 → j ≠ 11 → j ≠ 12 → g' j = gS j) → (∀ j, j ≠ 17 → j ≠ 18 → j ≠ 19 → f' j = fS j) → Q g' f') : wX8_refresh N gS fS Q := by
  obtain ⟨W, H, e, hWH, ⟨s4, s5, t2, t3⟩, hS, he, hIC, hIS⟩ := hI.2.2.2.2.2.2
  refine q_strip hN s4 s5 hWH.2.1 hWH.2.2.2 (fun k hk => (hS k hk).2) hIS.1 (fun g' f' a1 a2 a3 a4 => ?_)
  have f13 := a3 13 (by decide) (by decide) (by decide)
  have g6 := a2 6 (by decide) (by decide) (by decide)
  have hs : g' 4 = nI W ∧ g' 5 = nI H ∧ gT 2 = nI W ∧ gT 3 = nI H := ⟨(a2 4 (by decide) (by decide) (by decide)).trans s4, (a2 5 (by decide) (by decide) (by decide)).trans s5, t2, t3⟩
  refine h W H g' f' hWH hs (by rw [f13]; exact hS) (by rw [f13]; exact a4) ?_ a2 a3
  refine inv_tr hI (fun j hj => a2 j (by omega) (by omega) (by omega)) (fun j hj => a3 j (by omega) (by omega) (by omega)) (fun j hj => rfl) (fun j hj => rfl) ?_ ?_
  · rw [a2 1 (by decide) (by decide) (by decide)]; exact hI.2.2.2.2.2.1.1
  · refine ⟨W, H, e, hWH, hs, by rw [f13]; exact hS, by rw [g6]; exact he, ?_, Or.inl ⟨a1.trans g6.symm, by rw [f13]; exact a4⟩, by rw [a3 39 (by decide) (by decide) (by decide), a3 40 (by decide) (by decide) (by decide), a3 41 (by decide) (by decide) (by decide), a3 42 (by decide) (by decide) (by decide)]; exact hIS.2⟩
    rw [f13, a3 14 (by decide) (by decide) (by decide), a2 9 (by decide) (by decide) (by decide), g6]
    exact hIC
theorem inv_FR {SP : gSP} {n : Nat} {gS gT g' : gFG} {fS fT f' : gFF} {w : Int64} (hI : InvP (GCg SP) n gS fS gT fT w) (hF : FR (va_up gT 0 0) fT g' f') (w' : Int64) : InvP (GCg SP) (n + 1) gS fS g' f' w' := by
  have g : ∀ j, j ≠ 13 → j ≠ 14 → j ≠ 0 → g' j = gT j := fun j c1 c2 c3 => (hF.1 j c1 c2).trans (up_n _ _ c3)
  refine inv_tr hI (fun _ _ => rfl) (fun _ _ => rfl) (fun j hj => g j (by omega) (by omega) (by omega)) (fun j hj => hF.2 j (by omega) (by omega) (by omega) (by omega)) ?_ ?_
  · rw [g 1 (by decide) (by decide) (by decide)]; exact hI.2.2.2.2.2.1.1
  · exact GCk (GCg_ok SP) hI.2.2.2.2.2.2 ⟨rfl, rfl, rfl, rfl, rfl, rfl, rfl⟩ ⟨rfl, rfl, rfl, rfl, rfl, rfl, rfl, rfl⟩ ⟨g 2 (by decide) (by decide) (by decide), g 3 (by decide) (by decide) (by decide), g 6 (by decide) (by decide) (by decide)⟩ ⟨hF.2 1 (by decide) (by decide) (by decide) (by decide), hF.2 2 (by decide) (by decide) (by decide) (by decide)⟩
theorem ok_off {N : Nat} (hN : 1000 ≤ N) : ls_off N (InvP (GCg SPd)) := by
  intro n a b gS fS gT fT wT hn hI
  unfold wX11_off
  refine q_stripI hN hI (fun W H g' f' hWH ⟨u4, u5, t2, t3⟩ hS hSP hI' _ _ => ?_)
  obtain ⟨m, m8, mp, mz, mT, mG, mo⟩ := hSP
  have hgone : bcI (g' 11) = nI m := by
    rw [bc_A mG (fun q _ c => c.1) (b := Gs W H (f' 13) m) (fun q hq => ⟨fun c => ⟨hq, c⟩, fun c => c.2⟩), Gs_n m mp]
  have hthere : bcI (g' 10) = nI (cB (fun q => pb (thP W H (f' 13) q)) 8) := bc_A mT (fun q _ c => c.1) (fun q hq => pb_t)
  have t2' : (va_up gT 0 0) 2 = nI W := t2
  have t3' : (va_up gT 0 0) 3 = nI H := t3
  -- the model
  have M : ∀ r : Int32, (∀ g2 f2, g2 13 = nI m → g2 14 = nI (cB (fun q => pb (thP W H (f' 13) q)) 8) → (∀ k, k < m → f2 7 k = f' 18 k ∧ f2 8 k = f' 19 k) → ∀ Q : Int32 → gFG → gFF → Int64 → Prop, Q r g2 f2 wT → ((¬ a = (-1)) → wX12_in N a.toInt64 0 ((g2 13).toInt64 - 1) g2 f2 wT (fun r66 g66 f66 w66 => ((¬ r66 = 0) → ((¬ b = 0) → ((¬ b = 1) → Q (-1) g66 f66 w66) ∧ ((b = 1) → (vp_in a 8) ∧ (Q (f66 8 a.toNatClampNeg) g66 f66 w66))) ∧ ((b = 0) → (vp_in a 8) ∧ (Q (f66 7 a.toNatClampNeg) g66 f66 w66))) ∧ ((r66 = 0) → Q (-1) g66 f66 w66))) ∧ ((a = (-1)) → ((¬ b = 0) → ((¬ b = 1) → ((¬ b = 2) → Q (-1) g2 f2 wT) ∧ ((b = 2) → Q (g2 14) g2 f2 wT)) ∧ ((b = 1) → Q ((g2 14) - (g2 13)) g2 f2 wT)) ∧ ((b = 0) → Q (g2 13) g2 f2 wT))) → wX12_off N a b gT fT wT (fun r2 g2 f2 w2 => r = r2 ∧ InvP (GCg SPd) (n + 1) g' f' g2 f2 w2) := by
    intro r hr
    unfold wX12_off
    rintro _ rfl
    refine q_drawOff (W := W) (H := H) (S := f' 13) hN t2' t3' hWH.2.1 hWH.2.2.2 hS (fun g2 f2 m' hF c1 c2 c3 c4 c5 c6 => ?_)
    have em : m' = m := sp_uniq c2 c3 mp mz
    subst em
    exact hr g2 f2 c4 c5 (fun k hk => ⟨(c6 k hk).1.trans (mo k hk).1.symm, (c6 k hk).2.trans (mo k hk).2.symm⟩) (fun r2 g2 f2 w2 => r = r2 ∧ InvP (GCg SPd) (n + 1) g' f' g2 f2 w2) ⟨rfl, inv_FR hI' hF wT⟩
  have z1 : ∀ g2 : gFG, g2 13 = nI m → ((g2 13).toInt64 - 1).toInt = (m : Int) - 1 := fun g2 e => by rw [e, sub1L, nI_I (by omega)]
  by_cases ha : a = -1
  · refine ⟨fun c => absurd ha c, fun _ => ?_⟩
    have am : ∀ Q : Prop, ((¬ a = (-1)) → Q) := fun Q c => absurd ha c
    unfold wX11_howManyPieces wX8_goneCount wX8_stuckCount wX8_pieceCount wX8_goneCount
    simp only [q_bc, hgone, hthere]
    refine ⟨fun c0 => M _ (fun g2 f2 e1 e2 e3 Q hq => ⟨fun c => absurd ha c, fun _ => ⟨fun c => absurd c0 c, fun _ => by rw [e1]; exact hq⟩⟩), fun c0 => ⟨fun c1 => M _ (fun g2 f2 e1 e2 e3 Q hq => ⟨fun c => absurd ha c, fun _ => ⟨fun _ => ⟨fun c => absurd c1 c, fun _ => by rw [e1, e2]; exact hq⟩, fun c => absurd c c0⟩⟩), fun c1 => ⟨fun c2 => M _ (fun g2 f2 e1 e2 e3 Q hq => ⟨fun c => absurd ha c, fun _ => ⟨fun _ => ⟨fun _ => ⟨fun c => absurd c2 c, fun _ => by rw [e2]; exact hq⟩, fun c => absurd c c1⟩, fun c => absurd c c0⟩⟩), fun c2 => M _ (fun g2 f2 e1 e2 e3 Q hq => ⟨fun c => absurd ha c, fun _ => ⟨fun _ => ⟨fun _ => ⟨fun _ => hq, fun c => absurd c c2⟩, fun c => absurd c c1⟩, fun c => absurd c c0⟩⟩)⟩⟩⟩
  · refine ⟨fun _ => ?_, fun c => absurd c ha⟩
    -- no such place
    have out : ¬ (0 ≤ a.toInt ∧ a.toInt ≤ (m : Int) - 1) → wX12_off N a b gT fT wT (fun r2 g2 f2 w2 => -1 = r2 ∧ InvP (GCg SPd) (n + 1) g' f' g2 f2 w2) := by
      intro hno
      refine M _ (fun g2 f2 e1 e2 e3 Q hq => ⟨fun _ => ?_, fun c => absurd c ha⟩)
      rw [q_in, l_I, z0L, z1 g2 e1, decide_eq_false hno]
      exact ⟨fun c => absurd rfl c, fun _ => hq⟩
    have at18 : ∀ {k : Nat} {R : Int32 → gFG → gFF → Prop}, (¬ (0 ≤ a.toInt ∧ a.toInt ≤ (m : Int) - 1) → R (-1) g' f') → ((0 ≤ a.toInt ∧ a.toInt ≤ (m : Int) - 1) → R (f' k a.toNatClampNeg) g' f') → ((a < 0) → R (-1) g' f') ∧ ((¬ a < 0) → wX8_goneCount N g' f' (fun r6 g6 f6 => ((r6 ≤ a) → R (-1) g6 f6) ∧ ((¬ r6 ≤ a) → ((8 ≤ a) → R (-1) g6 f6) ∧ ((¬ 8 ≤ a) → (vp_in a 8) ∧ (R (f6 k a.toNatClampNeg) g6 f6))))) := by
      intro k R hno hyes
      unfold wX8_goneCount
      rw [q_bc, hgone]
      refine ⟨fun c => hno (by rw [lt_I, z_0] at c; omega), fun c => ⟨fun c2 => hno ?_, fun c2 => ⟨fun c3 => hno ?_, fun c3 => ⟨?_, hyes ?_⟩⟩⟩⟩
      · rw [le_I, nI_I (by omega)] at c2; omega
      · rw [le_I, z_8] at c3; omega
      · rw [in_I]; rw [lt_I, z_0] at c; rw [le_I, z_8] at c3; omega
      · rw [le_I, nI_I (by omega)] at c2; rw [lt_I, z_0] at c; omega
    have hin : (0 ≤ a.toInt ∧ a.toInt ≤ (m : Int) - 1) → vp_in a 8 := fun c => by rw [in_I]; omega
    have hcl : (0 ≤ a.toInt ∧ a.toInt ≤ (m : Int) - 1) → a.toNatClampNeg < m := fun c => by rw [cl_I]; omega
    refine ⟨fun c0 => ?_, fun c0 => ⟨fun c1 => ?_, fun c1 => ?_⟩⟩
    · refine at18 (k := 18) (R := fun r g f => wX12_off N a b gT fT wT (fun r2 g2 f2 w2 => r = r2 ∧ InvP (GCg SPd) (n + 1) g f g2 f2 w2)) out (fun hy => M _ (fun g2 f2 e1 e2 e3 Q hq => ⟨fun _ => ?_, fun c => absurd c ha⟩))
      rw [q_in, l_I, z0L, z1 g2 e1, decide_eq_true hy]
      refine ⟨fun _ => ⟨fun c => absurd c0 c, fun _ => ⟨hin hy, ?_⟩⟩, fun c => absurd c (by decide)⟩
      rw [(e3 _ (hcl hy)).1]; exact hq
    · refine at18 (k := 19) (R := fun r g f => wX12_off N a b gT fT wT (fun r2 g2 f2 w2 => r = r2 ∧ InvP (GCg SPd) (n + 1) g f g2 f2 w2)) out (fun hy => M _ (fun g2 f2 e1 e2 e3 Q hq => ⟨fun _ => ?_, fun c => absurd c ha⟩))
      rw [q_in, l_I, z0L, z1 g2 e1, decide_eq_true hy]
      refine ⟨fun _ => ⟨fun _ => ⟨fun c => absurd c1 c, fun _ => ⟨hin hy, ?_⟩⟩, fun c => absurd c c0⟩, fun c => absurd c (by decide)⟩
      rw [(e3 _ (hcl hy)).2]; exact hq
    · refine M _ (fun g2 f2 e1 e2 e3 Q hq => ⟨fun _ => ?_, fun c => absurd c ha⟩)
      rw [q_in]
      exact ⟨fun _ => ⟨fun _ => ⟨fun _ => hq, fun c => absurd c c1⟩, fun c => absurd c c0⟩, fun _ => hq⟩
