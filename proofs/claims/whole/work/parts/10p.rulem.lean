/-! one rule of the model; the whole text -/
theorem q_ruleM {N t i r : Nat} {x : T3} {b : Nat → Int32} {g0 g : gFG} {f : gFF} {Q : gFG → gFF → Int64 → Prop} (hN : 1000 ≤ N) (ht : t ≤ 300) (hb : ∀ i, i < t → f 20 i = b i) (h37 : g0 37 = 0) (hT : Tk3 b t x) (hi : i < 9) (hv : ∀ j, j < 14 → isWt b x j = decide (j = i)) (ha : tkM g0 g t x) (h29 : g0 29 = nI r) (hr : r < 20) (h1 : ∀ g' a c y, prs b t (nI i) (nt b t x) = (y, some (a, c)) → tkM g0 g' t y → wX12_readRule_j126 N Q (nI i) a c g' f (wot b y)) (h2 : ∀ g' y w, prs b t (nI i) (nt b t x) = (y, none) → tkB g0 g' t y → Q g' f w) : wX12_readRule N g f (wot b x) Q := by
  unfold wX12_readRule
  have hT0 := hT
  obtain ⟨p, hTp⟩ := hT0
  refine q_sortAt hTp ha.2.2.2.1 (Or.inr ⟨i, hi, rfl, hv⟩) ?_
  have vi : (nI i).toInt = i := nI_I (by omega)
  have g29 : g 29 = nI r := (ha.2.2.2.2 29 (by decide) (by decide) (by decide)).trans h29
  rw [g29]
  refine ⟨fun c => absurd c (by rw [lt_I, vi, z_0]; omega), fun _ => ⟨fun c => absurd c (nI_ge hr (by decide)), fun _ => ?_⟩⟩
  unfold wX12_readRule_j24
  refine q_mustW (o := true) hN ht hb h37 hT ha (fun _ g1 ha1 => ?_) (fun c => absurd rfl c)
  have hT1 := Tk3_s hT
  generalize nt b t x = y1 at h1 h2 ha1 hT1
  have n37 : ∀ {g' : gFG} {y : T3}, tkB g0 g' t y → ¬ g' 37 = 0 := fun h => by rw [h.1]; decide
  have e3 : (3 ≤ nI i) = (3 ≤ i) := by rw [le_I, vi, show (3 : Int32).toInt = 3 from rfl]; apply propext; omega
  simp only [br1, br2, e3]
  by_cases h3 : i < 3
  · rw [if_neg (by omega)]
    have p3 : (nI i).toInt < 3 := by omega
    obtain ⟨p1, hTp1⟩ := hT1
    rw [q_wM hTp1 ha1.2.2.2.1 9 (by decide) (by decide) 102 114 111 109 0 0 0 (by decide +kernel) (by decide +kernel)]
    refine q_mustW hN ht hb h37 ⟨p1, hTp1⟩ ha1 (fun w1 g2 ha2 => ?_) (fun w1 g2 hb2 => ?_)
    · have hT2 : Tk3 b t (nt b t y1) := Tk3_s ⟨p1, hTp1⟩
      refine q_numW hN ht hb h37 hT2 ha2 0 rfl (fun o2 g3 ha3 => ?_) (fun o2 v g3 hb3 => ?_)
      · have hT3 := Tk3_s hT2
        obtain ⟨p3', hTp3⟩ := hT3
        rw [q_wM hTp3 ha3.2.2.2.1 11 (by decide) (by decide) 116 111 0 0 0 0 0 (by decide +kernel) (by decide +kernel)]
        refine q_mustW hN ht hb h37 ⟨p3', hTp3⟩ ha3 (fun w3 g4 ha4 => ?_) (fun w3 g4 hb4 => ?_)
        · have hT4 : Tk3 b t (nt b t (nt b t (nt b t y1))) := Tk3_s ⟨p3', hTp3⟩
          refine q_numW hN ht hb h37 hT4 ha4 _ (l_I _) (fun o4 g5 ha5 => ?_) (fun o4 v g5 hb5 => ?_)
          · exact h1 g5 _ _ _ (by unfold prs; rw [if_pos p3, if_pos w1, if_pos o2, if_pos w3, if_pos o4]) ha5
          · exact q_126B (n37 hb5) (h2 g5 _ _ (by unfold prs; rw [if_pos p3, if_pos w1, if_pos o2, if_pos w3, if_neg o4]) hb5)
        · exact q_numB (n37 hb4) (fun v => q_126B (n37 hb4) (h2 g4 _ _ (by unfold prs; rw [if_pos p3, if_pos w1, if_pos o2, if_neg w3]) hb4))
      · exact q_iwB (fun _ => q_mustB (n37 hb3) (q_numB (n37 hb3) (fun _ => q_126B (n37 hb3) (h2 g3 _ _ (by unfold prs; rw [if_pos p3, if_pos w1, if_neg o2]) hb3))))
    · exact q_numB (n37 hb2) (fun _ => q_iwB (fun _ => q_mustB (n37 hb2) (q_numB (n37 hb2) (fun _ => q_126B (n37 hb2) (h2 g2 _ _ (by unfold prs; rw [if_pos p3, if_neg w1]) hb2)))))
  · rw [if_pos (by omega)]
    have p3 : ¬ (nI i).toInt < 3 := by omega
    refine q_numW hN ht hb h37 hT1 ha1 0 rfl (fun o1 g2 ha2 => ?_) (fun o1 v g2 hb2 => ?_)
    · by_cases h8 : nI i = 8
      · rw [if_pos h8]
        have hT2 := Tk3_s hT1
        obtain ⟨p2', hTp2⟩ := hT2
        rw [q_wM hTp2 ha2.2.2.2.1 12 (by decide) (by decide) 101 118 101 114 121 0 0 (by decide +kernel) (by decide +kernel)]
        refine q_mustW hN ht hb h37 ⟨p2', hTp2⟩ ha2 (fun w2 g3 ha3 => ?_) (fun w2 g3 hb3 => ?_)
        · have hT3 : Tk3 b t (nt b t (nt b t y1)) := Tk3_s ⟨p2', hTp2⟩
          refine q_numW hN ht hb h37 hT3 ha3 1 rfl (fun o3 g4 ha4 => ?_) (fun o3 v g4 hb4 => ?_)
          · exact h1 g4 _ _ _ (by unfold prs; rw [if_neg p3, if_pos o1, if_pos h8, if_pos w2, if_pos o3]) ha4
          · exact q_126B (n37 hb4) (h2 g4 _ _ (by unfold prs; rw [if_neg p3, if_pos o1, if_pos h8, if_pos w2, if_neg o3]) hb4)
        · exact q_numB (n37 hb3) (fun _ => q_126B (n37 hb3) (h2 g3 _ _ (by unfold prs; rw [if_neg p3, if_pos o1, if_pos h8, if_neg w2]) hb3))
      · rw [if_neg h8]
        exact h1 g2 _ _ _ (by unfold prs; rw [if_neg p3, if_pos o1, if_neg h8]) ha2
    · have hh := h2 g2 _ (wot b y1) (by unfold prs; rw [if_neg p3, if_neg o1]) hb2
      split
      · exact q_iwB (fun _ => q_mustB (n37 hb2) (q_numB (n37 hb2) (fun _ => q_126B (n37 hb2) hh)))
      · exact q_126B (n37 hb2) hh
/-- no rule may begin here -/
theorem q_ruleN {N t r : Nat} {x : T3} {v : Int32} {b : Nat → Int32} {g0 g : gFG} {f : gFF} {Q : gFG → gFF → Int64 → Prop} (hN : 1000 ≤ N) (ht : t ≤ 300) (hb : ∀ i, i < t → f 20 i = b i) (h37 : g0 37 = 0) (hT : Tk3 b t x) (hv : KD b x.1 x.2.1 v) (ha : tkM g0 g t x) (h29 : g0 29 = nI r) (hr : r ≤ 20) (hn : v = -1 ∨ r = 20) (h2 : ∀ g' w, tkB g0 g' t x → Q g' f w) : wX12_readRule N g f (wot b x) Q := by
  unfold wX12_readRule
  have hT0 := hT
  obtain ⟨p, hTp⟩ := hT0
  refine q_sortAt hTp ha.2.2.2.1 hv ?_
  have g29 : g 29 = nI r := (ha.2.2.2.2 29 (by decide) (by decide) (by decide)).trans h29
  have fin : wX12_readRule_j24 N Q v 0 g f (wot b x) := by
    unfold wX12_readRule_j24
    refine q_mustW (o := false) hN ht hb h37 hT ha (fun c => by contradiction) (fun _ g2 hb2 => ?_)
    have n37 : ¬ g2 37 = 0 := by rw [hb2.1]; decide
    have hh := h2 g2 (wot b x) hb2
    refine ⟨fun _ => q_numB n37 (fun v => ⟨fun _ => q_126B n37 hh, fun _ => q_iwB (fun _ => q_mustB n37 (q_numB n37 (fun _ => q_126B n37 hh)))⟩), fun _ => q_iwB (fun _ => q_mustB n37 (q_numB n37 (fun _ => q_iwB (fun _ => q_mustB n37 (q_numB n37 (fun _ => q_126B n37 hh))))))⟩
  unfold wX12_readRule_j23
  refine ⟨fun _ => fin, fun c => ⟨fun _ => fin, fun c2 => ?_⟩⟩
  rw [g29] at c2
  rcases hn with h | h
  · rw [h] at c; exact absurd (show (-1 : Int32) < 0 from by decide) c
  · rw [h] at c2; exact absurd (show (20 : Int32) ≤ nI 20 from by decide) c2
/-- the kind at a token, 9 where none is -/
def kdF (b : Nat → Int32) (x : T3) : Nat := ((List.range 9).find? (fun j => isWt b x j)).getD 9
theorem kdF_s (b : Nat → Int32) (x : T3) : (kdF b x = 9 ∧ KD b x.1 x.2.1 (-1)) ∨ (kdF b x < 9 ∧ ∀ j, j < 14 → isWt b x j = decide (j = kdF b x)) := by
  cases hf : (List.range 9).find? (fun j => isWt b x j) with
  | none =>
    refine Or.inl ⟨by unfold kdF; rw [hf]; rfl, Or.inl ⟨rfl, fun j hj => ?_⟩⟩
    have := List.find?_eq_none.mp hf j (List.mem_range.mpr hj)
    cases hb : isWt b x j with
    | false => exact hb
    | true => exact absurd hb this
  | some i =>
    have h1 : isWt b x i = true := List.find?_some hf
    have h2 : i < 9 := List.mem_range.mp (List.mem_of_find?_eq_some hf)
    have h3 : kdF b x = i := by unfold kdF; rw [hf]; rfl
    refine Or.inr ⟨by omega, fun j hj => ?_⟩
    rw [h3]
    by_cases h4 : j = i
    · rw [h4, h1]; simp
    · rw [decide_eq_false h4]
      cases h5 : isWt b x j with
      | false => rfl
      | true => exact absurd (gsb_inj j i (by omega) (by omega) (isW_inj h5 h1)) h4
def pr1 (b : Nat → Int32) (t : Nat) (x : T3) : T3 × Option (Int32 × Int32) := if kdF b x < 9 then prs b t (nI (kdF b x)) (nt b t x) else (x, none)
def tks (b : Nat → Int32) (t : Nat) : Nat → T3
  | 0 => nx b t 0
  | i + 1 => nt b t (pr1 b t (tks b t i)).1
abbrev gdT (b : Nat → Int32) (t i : Nat) : Prop := ¬ (pr1 b t (tks b t i)).2 = none
abbrev afT (b : Nat → Int32) (t i : Nat) : T3 := (pr1 b t (tks b t i)).1
abbrev rlA (b : Nat → Int32) (t i : Nat) : Int32 := ((pr1 b t (tks b t i)).2.getD (0, 0)).1
abbrev rlC (b : Nat → Int32) (t i : Nat) : Int32 := ((pr1 b t (tks b t i)).2.getD (0, 0)).2
abbrev rlK (b : Nat → Int32) (t i : Nat) : Int32 := nI (kdF b (tks b t i))
theorem prs_r {b : Nat → Int32} {t : Nat} {v : Int32} {x y : T3} {a c : Int32} (h : prs b t v x = (y, some (a, c))) : (0 ≤ a.toInt ∧ a.toInt ≤ 1000) ∧ 0 ≤ c.toInt ∧ c.toInt ≤ 1000 := by
  unfold prs at h
  split at h
  · split at h
    · split at h
      · next o1 =>
        split at h
        · split at h
          · next o2 =>
            simp only [Prod.mk.injEq, Option.some.injEq] at h
            obtain ⟨-, rfl, rfl⟩ := h
            have := o1.2; have := o2.2
            simp only [nrt] at *
            omega
          · simp at h
        · simp at h
      · simp at h
    · simp at h
  · split at h
    · next o1 =>
      split at h
      · split at h
        · split at h
          · next o2 =>
            simp only [Prod.mk.injEq, Option.some.injEq] at h
            obtain ⟨-, rfl, rfl⟩ := h
            have := o1.2; have := o2.2
            simp only [nrt] at *
            omega
          · simp at h
        · simp at h
      · simp only [Prod.mk.injEq, Option.some.injEq] at h
        obtain ⟨-, rfl, rfl⟩ := h
        have := o1.2
        simp only [nrt] at *
        exact ⟨by omega, by decide⟩
    · simp at h
theorem prs_t {b : Nat → Int32} {t : Nat} {v : Int32} {x : T3} (h : Tk3 b t x) : Tk3 b t (prs b t v x).1 := by
  have h1 := Tk3_s h
  have h2 := Tk3_s h1
  have h3 := Tk3_s h2
  have h4 := Tk3_s h3
  unfold prs
  repeat' split
  all_goals assumption
theorem pr1_t {b : Nat → Int32} {t : Nat} {x : T3} (h : Tk3 b t x) : Tk3 b t (pr1 b t x).1 := by
  unfold pr1
  split
  · exact prs_t (Tk3_s h)
  · exact h
theorem tks_t (b : Nat → Int32) (t : Nat) : ∀ i, Tk3 b t (tks b t i) := by
  intro i
  induction i with
  | zero => exact ⟨0, nx_tk b t 0 (by omega)⟩
  | succ i ih => exact Tk3_s (pr1_t ih)
theorem gd_r {b : Nat → Int32} {t i : Nat} (h : gdT b t i) : kdF b (tks b t i) < 9 ∧ ((0 ≤ (rlA b t i).toInt ∧ (rlA b t i).toInt ≤ 1000) ∧ 0 ≤ (rlC b t i).toInt ∧ (rlC b t i).toInt ≤ 1000) ∧ prs b t (nI (kdF b (tks b t i))) (nt b t (tks b t i)) = (afT b t i, some (rlA b t i, rlC b t i)) := by
  by_cases hk : kdF b (tks b t i) < 9
  · have e : pr1 b t (tks b t i) = prs b t (nI (kdF b (tks b t i))) (nt b t (tks b t i)) := by unfold pr1; rw [if_pos hk]
    simp only [gdT, e] at h
    simp only [rlA, rlC, afT, e]
    cases hp : prs b t (nI (kdF b (tks b t i))) (nt b t (tks b t i)) with
    | mk y o =>
      rw [hp] at h
      cases o with
      | none => exact absurd rfl h
      | some ac => exact ⟨hk, prs_r hp, rfl⟩
  · exact absurd (by unfold pr1; rw [if_neg hk]) h
