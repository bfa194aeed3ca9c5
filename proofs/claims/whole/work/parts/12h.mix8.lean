/-! the model's loop over the rows -/
theorem nI_2 (k : Nat) : nI (k + 1) - 2 = nI k - 1 := by
  have h1 : nI (k + 1) - nI 2 = nI k - nI 1 := by
    rw [eq_I, Int32.toInt_sub, Int32.toInt_sub]
    have e : (nI (k + 1)).toInt = ((nI k).toInt + 1).bmod (2 ^ 32) := by
      rw [← nI_1, Int32.toInt_add]; rfl
    rw [e]
    have e2 : (nI 2).toInt = 2 := rfl
    have e1 : (nI 1).toInt = 1 := rfl
    rw [e2, e1, Int.sub_eq_add_neg, Int.bmod_add_bmod]
    congr 1
    omega
  exact h1
theorem q_mixL {N n a b c k : Nat} {P T E U : Nat → Nat} {g : gFG} {f0 : gFF} {w : Int64} {Q : Int32 → gFG → gFF → Int64 → Prop} (hN : 200000000 ≤ N) (hn : n ≤ 40) (ha : a ≤ 1000) (hb : b ≤ 1000) (hc : c ≤ 1000) (hk : k < 6) (h15 : g 15 = nI (k + 1)) (hM : LM (k + 1) P T E U f0) (hno : (∀ r, ¬ Fe n a b c T E U r) → ∀ f', (∀ j, j ≠ 14 → j ≠ 15 → f' j = f0 j) → wX12_told N (-6) g f' w Q) (hyes : ∀ r, Bst (Fe n a b c T E U) (fun r => sw P r 6) (fun _ => True) r → ∀ f', (∀ j, j ≠ 14 → j ≠ 15 → f' j = f0 j) → (∀ i, i < k + 1 → f' 15 i = nI (r i)) → wX12_mix_l358 N (nI n) (nI (sw P r 6)) Q N 0 g f' w) : ∀ (d fu : Nat) (p : Nat → Nat) (v5 : Int32) (f : gFF), 115856201 - vl p ≤ d → d < fu → (∀ j, j ≠ 14 → j ≠ 15 → f j = f0 j) → (∀ i, i < k → p i ≤ U i) → (∀ i, k ≤ i → p i = 0) → su p k ≤ n → (∀ i, i < k → f 14 i = nI (p i)) → BM (Fe n a b c T E U) (fun r => sw P r 6) (k + 1) (Bf p k) v5 (f 15) → wX12_mix_l102 N (nI n) (nI a) (nI b) (nI c) Q fu v5 1 g f w := by
  have hU40 : ∀ i, i < 6 → U i ≤ 40 := fun i hi => (hM.2.1 i hi).2.2.2
  have hpr : ∀ r, Fe n a b c T E U r → sw P r 6 ≤ 40000 := by
    intro r hr
    have := sw_le (w := P) (r := r) (x := 6) (fun i hi => (hM.2.1 i hi).1)
    have := hr.2.1
    omega
  intro d
  induction d with
  | zero =>
    intro fu p v5 f h1 h2 hf hpU hp0
    have : ∀ i, p i ≤ 40 := by
      intro i
      by_cases c : i < k
      · have := hpU i c; have := hU40 i (by omega); omega
      · rw [hp0 i (by omega)]; omega
    have := vl_r this
    omega
  | succ d ihd =>
    intro fu p v5 f h1 h2 hf hpU hp0 hps hrow hB
    obtain ⟨fu, rfl⟩ : ∃ q, fu = q + 1 := ⟨fu - 1, by omega⟩
    have hp40 : ∀ i, p i ≤ 40 := by
      intro i
      by_cases c : i < k
      · have := hpU i c; have := hU40 i (by omega); omega
      · rw [hp0 i (by omega)]; omega
    unfold wX12_mix_l102
    refine ⟨fun c => absurd c (by decide), fun _ => ?_⟩
    -- the last lot's units
    refine lpU (β := Unit) (fun m x _ => wX12_mix_l113 N (nI n) (nI a) (nI b) (nI c) v5 (wX12_mix_l102 N (nI n) (nI a) (nI b) (nI c) Q fu) Q m (nI (n - su p x)) (nI x) g f w) (fun x _ => True) k ?_ ?_ 0 N () (by omega) (by omega) trivial
    · intro m _ _
      unfold wX12_mix_l113
      rw [h15, nI_1]
      refine ⟨fun _ => ?_, fun c => absurd (nI_le (Nat.le_refl _) (by omega)) c⟩
      rw [nI_pred]
      rintro _ rfl
      refine ⟨vp_in_nI (by omega) (by decide), ?_⟩
      rw [nI_clamp (show k < 2 ^ 31 by omega)]
      rintro _ rfl
      -- the row
      have hfr : ∀ i, i < k + 1 → (va_up f 14 (upd (f 14) k (nI (n - su p k)))) 14 i = nI (rr p k (n - su p k) i) := by
        intro i hi
        rw [up_s]
        unfold rr
        by_cases e : i = k
        · rw [e, upd_at, if_neg (by omega), if_pos rfl]
        · rw [upd_ne _ _ e, if_pos (by omega)]; exact hrow i (by omega)
      have hr6 : su (rr p k (n - su p k)) 6 = n := by rw [rr_su p k _ hk]; omega
      have agr : ∀ r, Fe n a b c T E U r → Ag p k r → ∀ i, i < 6 → r i = rr p k (n - su p k) i := by
        intro r hF hA i hi
        have hz : ∀ i, k + 1 ≤ i → i < 6 → r i = 0 := fun i h1 h2 => by have := hF.1 i h2; have := hM.2.2 i h1; omega
        have e1 : su r 6 = su r (k + 1) := su_z (by omega) hz
        have e2 : su r (k + 1) = su r k + r k := rfl
        have e3 : su r k = su p k := su_c hA
        have e4 := hF.2.1
        unfold rr
        by_cases c1 : i < k
        · rw [if_pos c1]; exact hA i c1
        · rw [if_neg c1]
          by_cases c2 : i = k
          · rw [if_pos c2, c2]; omega
          · rw [if_neg c2]; exact hz i (by omega) hi
      have rrAg : Ag p k (rr p k (n - su p k)) := fun j hj => by unfold rr; rw [if_pos hj]
      -- on to the next row
      have go : ∀ (v : Int32) (f2 : gFF), (∀ j, j ≠ 14 → j ≠ 15 → f2 j = f0 j) → (∀ i, i < k → f2 14 i = nI (p i)) → BM (Fe n a b c T E U) (fun r => sw P r 6) (k + 1) (fun r => Bf p k r ∨ Ag p k r) v (f2 15) → wX12_mix_j244 N (wX12_mix_l102 N (nI n) (nI a) (nI b) (nI c) Q fu) Q (nI n) (nI a) (nI b) (nI c) v (nI (n - su p k)) g f2 w := by
        intro v f2 hf2 hrow2 hB2
        unfold wX12_mix_j244
        rw [h15, nI_2, nI_subn (show n - su p k ≤ n by omega), show n - (n - su p k) = su p k by omega]
        rintro _ rfl _ rfl
        have key : ∀ (l m : Nat) (f3 : gFF), l ≤ k → l < m → (∀ j, j ≠ 14 → f3 j = f2 j) → (∀ i, i < l → f3 14 i = nI (p i)) → (∀ i, l ≤ i → i < k → f3 14 i = 0) → (∀ i, l ≤ i → i < k → p i = U i ∨ n ≤ su p (i + 1)) → wX12_mix_l258 N (nI n) (nI a) (nI b) (nI c) v (wX12_mix_l102 N (nI n) (nI a) (nI b) (nI c) Q fu) Q m (nI l - 1) (nI (su p l)) g f3 w := by
          intro l
          induction l with
          | zero =>
            intro m f3 hl hm e1 e2 e3 e4
            obtain ⟨m, rfl⟩ : ∃ q, m = q + 1 := ⟨m - 1, by omega⟩
            unfold wX12_mix_l258
            refine ⟨fun c0 => ?_, fun c0 => absurd (show nI 0 - 1 < 0 by decide) c0⟩
            unfold wX12_mix_j312 wX12_mix_j322 wX12_mix_j340
            refine ⟨fun _ => ⟨fun _ => ?_, fun c1 => absurd rfl c1⟩, fun c1 => absurd c0 c1⟩
            obtain ⟨fu2, rfl⟩ : ∃ q, fu = q + 1 := ⟨fu - 1, by omega⟩
            have hfin : ∀ j, j ≠ 14 → j ≠ 15 → f3 j = f0 j := fun j j1 j2 => (e1 j j1).trans (hf2 j j1 j2)
            have hB3 : BM (Fe n a b c T E U) (fun r => sw P r 6) (k + 1) (fun _ => True) v (f2 15) := BM_c hB2 (fun r hr => ⟨fun _ => trivial, fun _ => np_end hk (fun i hi => e4 i (by omega) hi) hr⟩)
            unfold wX12_mix_l102
            refine ⟨fun _ => ?_, fun c1 => absurd rfl c1⟩
            rcases hB3 with ⟨b1, b2⟩ | ⟨r, b1, b2, b3⟩
            · rw [b1]
              exact ⟨fun c1 => absurd c1 (by decide), fun _ => hno (fun r => b2 r trivial) f3 hfin⟩
            · rw [b2]
              have := hpr r b1.2.1
              dsimp only
              refine ⟨fun _ => hyes r b1 f3 hfin (fun i hi => by rw [e1 15 (by decide)]; exact b3 i hi), fun c1 => absurd ?_ c1⟩
              rw [le_I, z_0, nI_I (by omega)]; omega
          | succ l ihl =>
            intro m f3 hl hm e1 e2 e3 e4
            obtain ⟨m, rfl⟩ : ∃ q, m = q + 1 := ⟨m - 1, by omega⟩
            have hlU := hpU l (by omega)
            have hl40 := hU40 l (by omega)
            have hU12 : f3 12 l = nI (U l) := by rw [e1 12 (by decide), hf2 12 (by decide) (by decide)]; exact (hM.1 l (by omega)).2.2.2
            have hs1 : su p (l + 1) = su p l + p l := rfl
            have hsm := su_mono p (show l + 1 ≤ k by omega)
            have v7 : vp_in (nI l) 7 := vp_in_nI (by omega) (by decide)
            have v6 : vp_in (nI l) 6 := vp_in_nI (by omega) (by decide)
            have nneg : ¬ nI l < 0 := by rw [lt_I, nI_I (by omega), z_0]; omega
            unfold wX12_mix_l258
            rw [nI_pred]
            refine ⟨fun c0 => absurd c0 nneg, fun _ => ⟨v7, v6, ?_⟩⟩
            rw [nI_clamp (show l < 2 ^ 31 by omega), e2 l (by omega), hU12]
            have back : (p l = U l ∨ n ≤ su p (l + 1)) → wX12_mix_j286 N (wX12_mix_l102 N (nI n) (nI a) (nI b) (nI c) Q fu) (wX12_mix_l258 N (nI n) (nI a) (nI b) (nI c) v (wX12_mix_l102 N (nI n) (nI a) (nI b) (nI c) Q fu) Q m) Q (nI n) (nI a) (nI b) (nI c) v (nI l) (nI (su p (l + 1))) g f3 w := by
              intro hz
              unfold wX12_mix_j286
              rw [nI_clamp (show l < 2 ^ 31 by omega), e2 l (by omega), nI_subn (show p l ≤ su p (l + 1) by omega), show su p (l + 1) - p l = su p l by omega]
              refine ⟨v7, ?_⟩
              rintro _ rfl
              refine ⟨v7, ?_⟩
              rintro _ rfl _ rfl
              rw [sub_m1]
              refine ihl m _ (by omega) (by omega) (fun j hj => (up_n _ _ hj).trans (e1 j hj)) (fun i hi => ?_) (fun i i1 i2 => ?_) (fun i i1 i2 => ?_)
              · rw [up_s, upd_ne _ _ (by omega)]; exact e2 i (by omega)
              · rw [up_s]
                by_cases e : i = l
                · rw [e, upd_at]
                · rw [upd_ne _ _ e]; exact e3 i (by omega) i2
              · by_cases e : i = l
                · rw [e]; exact hz
                · exact e4 i (by omega) i2
            refine ⟨fun c0 => back (Or.inl (nI_inj (by omega) (by omega) c0)), fun c0 => ⟨fun c1 => ?_, fun c1 => back (Or.inr ?_)⟩⟩
            · -- the next row
              rw [nI_ltI (by omega) (by omega)] at c1
              have hne : p l ≠ U l := fun q => c0 (by rw [q])
              unfold wX12_mix_j312 wX12_mix_j322 wX12_mix_j340
              refine ⟨fun c2 => absurd c2 nneg, fun _ => ⟨fun c2 => absurd c2 (by decide), fun _ => ⟨v7, ?_⟩⟩⟩
              rw [nI_clamp (show l < 2 ^ 31 by omega), e2 l (by omega), nI_1]
              rintro _ rfl
              refine ⟨v7, ?_⟩
              rintro _ rfl
              have hnp : ∀ i, np p l i = if i < l then p i else if i = l then p l + 1 else 0 := fun _ => rfl
              have hsn : su (np p l) k = su p l + p l + 1 := by
                have q1 : su (np p l) k = su (np p l) (l + 1) := su_z (by omega) (fun i i1 i2 => by rw [hnp, if_neg (by omega), if_neg (by omega)])
                have q2 : su (np p l) l = su p l := su_c (fun i hi => by rw [hnp, if_pos hi])
                have q3 : su (np p l) (l + 1) = su (np p l) l + np p l l := rfl
                have q4 : np p l l = p l + 1 := by rw [hnp, if_neg (by omega), if_pos rfl]
                omega
              refine ihd fu (np p l) v _ ?_ (by omega) (fun j j1 j2 => (up_n _ _ j1).trans ((e1 j j1).trans (hf2 j j1 j2))) (fun i hi => ?_) (fun i hi => ?_) (by omega) (fun i hi => ?_) ?_
              · have := vl_lt (l := l) (by omega) hp40
                omega
              · rw [hnp]
                by_cases q1 : i < l
                · rw [if_pos q1]; exact hpU i (by omega)
                · rw [if_neg q1]
                  by_cases q2 : i = l
                  · rw [if_pos q2, q2]; omega
                  · rw [if_neg q2]; omega
              · rw [hnp, if_neg (by omega), if_neg (by omega)]
              · rw [up_s, hnp]
                by_cases q1 : i < l
                · rw [upd_ne _ _ (by omega), if_pos q1]; exact e2 i (by omega)
                · rw [if_neg q1]
                  by_cases q2 : i = l
                  · rw [q2, upd_at, if_pos rfl]
                  · rw [upd_ne _ _ q2, if_neg q2]
                    exact e3 i (by omega) hi
              · rw [up_n _ _ (by decide), e1 15 (by decide)]
                exact BM_c hB2 (fun r hr => (np_no hk (by omega) (fun i i1 i2 => e4 i (by omega) i2) hr).symm)
            · rw [nI_ltI (by omega) (by omega)] at c1; omega
        exact key k N f2 (Nat.le_refl _) (by omega) (fun _ _ => rfl) hrow2 (fun i h1 h2 => absurd h2 (by omega)) (fun i h1 h2 => absurd h2 (by omega))
      have hf1 : ∀ j, j ≠ 14 → j ≠ 15 → (va_up f 14 (upd (f 14) k (nI (n - su p k)))) j = f0 j := fun j j1 j2 => (up_n _ _ j1).trans (hf j j1 j2)
      have hrow1 : ∀ i, i < k → (va_up f 14 (upd (f 14) k (nI (n - su p k)))) 14 i = nI (p i) := fun i hi => by rw [up_s, upd_ne _ _ (by omega)]; exact hrow i hi
      have f15 : (va_up f 14 (upd (f 14) k (nI (n - su p k)))) 15 = f 15 := rfl
      generalize va_up f 14 (upd (f 14) k (nI (n - su p k))) = f1 at hfr hf1 hrow1 f15
      have hM1 : LM (k + 1) P T E U f1 := LM_f hM (hf1 9 (by decide) (by decide)) (hf1 10 (by decide) (by decide)) (hf1 11 (by decide) (by decide)) (hf1 12 (by decide) (by decide))
      -- no row here
      have none : (∀ r, Ag p k r → ¬ Fe n a b c T E U r) → wX12_mix_j189 N (wX12_mix_l102 N (nI n) (nI a) (nI b) (nI c) Q fu) Q (nI n) (nI a) (nI b) (nI c) v5 (nI (n - su p k)) (-1) g f1 w := by
        intro hn0
        unfold wX12_mix_j189
        refine ⟨fun _ => go v5 f1 hf1 hrow1 ?_, fun c0 => absurd (show (-1 : Int32) < 0 by decide) c0⟩
        rw [f15]
        refine BM_c hB (fun r hr => ⟨fun q => Or.inl q, ?_⟩)
        rintro (q | q)
        · exact q
        · exact absurd hr (hn0 r q)
      have noneg : ¬ nI (n - su p k) < 0 := by rw [lt_I, nI_I (by omega), z_0]; omega
      refine ⟨fun c0 => absurd c0 noneg, fun _ => ?_⟩
      rintro _ rfl
      have eU : f1 12 k = nI (U k) := (hM1.1 k (by omega)).2.2.2
      have eU40 := hU40 k hk
      rw [nI_clamp (show k < 2 ^ 31 by omega), eU, nI_ltI (by omega) (by omega)]
      refine ⟨vp_in_nI (by omega) (by decide), fun c0 => ?_, fun c0 => ?_⟩
      · unfold wX12_mix_j188
        refine none (fun r hA hF => ?_)
        have := agr r hF hA k hk
        unfold rr at this
        rw [if_neg (by omega), if_pos rfl] at this
        have := hF.1 k hk
        omega
      · refine q_priceOf (r := rr p k (n - su p k)) (by omega) hn ha hb hc (by omega) h15 hM1 hfr (fun i i1 i2 => by unfold rr; rw [if_neg (by omega), if_neg (by omega)]) (fun i hi => ?_) hr6 (fun hF => ?_) (fun hF => ?_)
        · unfold rr
          by_cases q1 : i < k
          · rw [if_pos q1]; exact hpU i q1
          · rw [if_neg q1]
            by_cases q2 : i = k
            · rw [if_pos q2, q2]; omega
            · rw [if_neg q2]; omega
        · -- a row that fits
          have hpq := hpr _ hF
          have same : ∀ r, Fe n a b c T E U r → Ag p k r → sw P r 6 = sw P (rr p k (n - su p k)) 6 ∧ ¬ lx r (rr p k (n - su p k)) := by
            intro r hr hA
            have e := agr r hr hA
            refine ⟨su_c (fun i hi => by rw [e i hi]), ?_⟩
            rintro ⟨i, i1, -, i3⟩
            rw [e i i1] at i3; omega
          have take : (∀ r, Bf p k r → Fe n a b c T E U r → sw P (rr p k (n - su p k)) 6 < sw P r 6) → wX12_mix_j208 N (wX12_mix_l102 N (nI n) (nI a) (nI b) (nI c) Q fu) Q (nI n) (nI a) (nI b) (nI c) (nI (n - su p k)) (nI (sw P (rr p k (n - su p k)) 6)) g f1 w := by
            intro hbest
            unfold wX12_mix_j208
            refine lpU (β := gFF) (fun m x f2 => wX12_mix_l215 N (nI n) (nI a) (nI b) (nI c) (nI (sw P (rr p k (n - su p k)) 6)) (nI (n - su p k)) (wX12_mix_l102 N (nI n) (nI a) (nI b) (nI c) Q fu) Q m (nI x) g f2 w) (fun x f2 => (∀ j, j ≠ 15 → f2 j = f1 j) ∧ ∀ i, i < x → f2 15 i = nI (rr p k (n - su p k) i)) (k + 1) ?_ ?_ 0 N f1 (by omega) (by omega) ⟨fun _ _ => rfl, fun i hi => absurd hi (by omega)⟩
            · rintro m f2 ⟨i1, i2⟩
              unfold wX12_mix_l215
              rw [h15]
              refine ⟨fun _ => ?_, fun q => absurd (nI_le (Nat.le_refl _) (by omega)) q⟩
              refine go _ f2 (fun j j1 j2 => (i1 j j2).trans (hf1 j j1 j2)) (fun i hi => by rw [i1 14 (by decide)]; exact hrow1 i hi) (Or.inr ⟨_, ⟨Or.inr rrAg, hF, fun r hr hFr => ?_⟩, rfl, i2⟩)
              rcases hr with hr | hr
              · exact Or.inl (hbest r hr hFr)
              · obtain ⟨s1, s2⟩ := same r hFr hr
                exact Or.inr ⟨s1.symm, s2⟩
            · rintro m x f2 hx ⟨i1, i2⟩ ih
              unfold wX12_mix_l215
              rw [h15]
              refine ⟨fun q => absurd q (nI_ge hx (by omega)), fun _ => ⟨vp_in_nI (by omega) (by decide), ?_⟩⟩
              rw [nI_clamp (show x < 2 ^ 31 by omega), i1 14 (by decide), hfr x hx]
              rintro _ rfl
              refine ⟨vp_in_nI (by omega) (by decide), ?_⟩
              rintro _ rfl _ rfl
              rw [nI_1]
              refine ih _ ⟨fun j hj => (up_n _ _ hj).trans (i1 j hj), fun i hi => ?_⟩
              rw [up_s]
              by_cases e : i = x
              · rw [e, upd_at]
              · rw [upd_ne _ _ e]; exact i2 i (by omega)
          unfold wX12_mix_j189
          refine ⟨fun q => ?_, fun _ => ?_⟩
          · rw [lt_I, nI_I (by omega), z_0] at q; omega
          rcases hB with ⟨b1, b2⟩ | ⟨r0, b1, b2, b3⟩
          · refine ⟨fun _ => take (fun r hr hFr => absurd hFr (b2 r hr)), fun q => absurd (by rw [b1]; decide) q⟩
          · have hp0' := hpr r0 b1.2.1
            dsimp only at b2
            rw [b2]
            refine ⟨fun q => ?_, fun _ => ⟨fun q => ?_, fun q => take (fun r hr hFr => ?_)⟩⟩
            · rw [lt_I, nI_I (by omega), z_0] at q; omega
            · rw [nI_leI (by omega) (by omega)] at q
              refine go _ f1 hf1 hrow1 (Or.inr ⟨r0, ⟨Or.inl b1.1, b1.2.1, fun r hr hFr => ?_⟩, rfl, fun i hi => by rw [f15]; exact b3 i hi⟩)
              rcases hr with hr | hr
              · exact b1.2.2 r hr hFr
              · obtain ⟨s1, -⟩ := same r hFr hr
                dsimp only
                by_cases e : sw P r0 6 = sw P r 6
                · exact Or.inr ⟨e, lx_as (Bf_lx (by omega) b1.1 hr)⟩
                · exact Or.inl (by omega)
            · rw [nI_leI (by omega) (by omega)] at q
              have := b1.2.2 r hr hFr
              dsimp only at this
              omega
        · exact none (fun r hA hFr => hF (Fe_c (agr r hFr hA) hFr))
    · intro m x _ hx _ ih
      have hs1 : su p (x + 1) = su p x + p x := rfl
      have hsm := su_mono p (show x + 1 ≤ k by omega)
      unfold wX12_mix_l113
      rw [h15, nI_1, nI_clamp (show x < 2 ^ 31 by omega), hrow x hx, nI_subn (show p x ≤ n - su p x by omega), show n - su p x - p x = n - su p (x + 1) by omega]
      refine ⟨fun q => ?_, fun _ => ⟨vp_in_nI (by omega) (by decide), ?_⟩⟩
      · rw [nI_leI (by omega) (by omega)] at q; omega
      · rintro _ rfl _ rfl
        exact ih () trivial
