/-! one rule -/
abbrev T3 : Type := Nat × Nat × Nat
def nt (b : Nat → Int32) (t : Nat) (x : T3) : T3 := nx b t x.2.1
abbrev isWt (b : Nat → Int32) (x : T3) (r : Nat) : Bool := isW b x.1 x.2.1 (gsb.getD r [])
abbrev oknt (b : Nat → Int32) (x : T3) (l : Int) : Prop := okn b x.1 x.2.1 x.2.2 l
abbrev nrt (b : Nat → Int32) (x : T3) : Int32 := nr b x.1 (x.2.1 - x.1)
abbrev wot (b : Nat → Int32) (x : T3) : Int64 := wor b x.1 x.2.1 x.2.2
/-- a token that is there -/
def Tk3 (b : Nat → Int32) (t : Nat) (x : T3) : Prop := ∃ p, Tk b t p x.1 x.2.1 x.2.2
theorem Tk3_n {b : Nat → Int32} {t : Nat} {x : T3} (h : Tk3 b t x) : Tk b t x.2.1 (nt b t x).1 (nt b t x).2.1 (nt b t x).2.2 := by
  obtain ⟨p, h⟩ := h
  exact nx_tk b t _ h.2.2.1
theorem Tk3_s {b : Nat → Int32} {t : Nat} {x : T3} (h : Tk3 b t x) : Tk3 b t (nt b t x) := ⟨_, Tk3_n h⟩
def prs (b : Nat → Int32) (t : Nat) (v : Int32) (x : T3) : T3 × Option (Int32 × Int32) :=
  if v.toInt < 3 then
    if isWt b x 9 = true then
      if oknt b (nt b t x) 0 then
        if isWt b (nt b t (nt b t x)) 11 = true then
          if oknt b (nt b t (nt b t (nt b t x))) (nrt b (nt b t x)).toInt then (nt b t (nt b t (nt b t (nt b t x))), some (nrt b (nt b t x), nrt b (nt b t (nt b t (nt b t x)))))
          else (nt b t (nt b t (nt b t x)), none)
        else (nt b t (nt b t x), none)
      else (nt b t x, none)
    else (x, none)
  else if oknt b x 0 then
    if v = 8 then
      if isWt b (nt b t x) 12 = true then
        if oknt b (nt b t (nt b t x)) 1 then (nt b t (nt b t (nt b t x)), some (nrt b x, nrt b (nt b t (nt b t x))))
        else (nt b t (nt b t x), none)
      else (nt b t x, none)
    else (nt b t x, some (nrt b x, 0))
  else (x, none)
/-- the component's reader stands at a token -/
def tkC (g0 g : gFG) (t : Nat) (x : T3) : Prop := g 18 = nI t ∧ g 19 = nI x.1 ∧ g 20 = nI x.2.1 ∧ ∀ j, j ≠ 19 → j ≠ 20 → g j = g0 j
theorem q_advC {N t : Nat} {x : T3} {g0 g : gFG} {f : gFF} {Q : gFG → gFF → Prop} (hN : 1000 ≤ N) (ht : t ≤ 300) (hT : Tk3 (f 44) t x) (ha : tkC g0 g t x) (h : ∀ g', tkC g0 g' t (nt (f 44) t x) → Q g' f) : wX7_advance N g f Q :=
  q_adv hN ht (Tk3_n hT) ha.1 ha.2.2.1 (fun g' a1 a2 a3 => h g' ⟨(a3 18 (by decide) (by decide)).trans ha.1, a1, a2, fun j h1 h2 => (a3 j h1 h2).trans (ha.2.2.2 j h1 h2)⟩)
theorem q_isWC {N t r : Nat} {x : T3} {g0 g : gFG} {f : gFF} {Q : Int32 → gFG → gFF → Prop} (hN : 1000 ≤ N) (ht : t ≤ 300) (hr : r < 14) (hT : Tk3 (f 44) t x) (ha : tkC g0 g t x) (h : Q (bi (isWt (f 44) x r)) g f) : wX7_isWord N r g f Q := by
  obtain ⟨p, hT⟩ := hT
  exact q_isWord hN ht hr hT ha.1 ha.2.1 ha.2.2.1 h
theorem q_skipC {N t r : Nat} {x : T3} {g0 g : gFG} {f : gFF} {Q : Int32 → gFG → gFF → Prop} (hN : 1000 ≤ N) (ht : t ≤ 300) (hr : r < 14) (hT : Tk3 (f 44) t x) (ha : tkC g0 g t x) (h1 : isWt (f 44) x r = true → ∀ g', tkC g0 g' t (nt (f 44) t x) → Q 1 g' f) (h2 : ¬ isWt (f 44) x r = true → Q 0 g f) : wX7_skipWord N r g f Q := by
  unfold wX7_skipWord
  refine q_isWC hN ht hr hT ha ?_
  cases hw : isWt (f 44) x r with
  | true => exact ⟨fun _ => q_advC hN ht hT ha (h1 hw), fun c => absurd c (by decide)⟩
  | false => exact ⟨fun c => absurd (show bi false = 0 from rfl) c, fun _ => h2 (by rw [hw]; decide)⟩
theorem q_numC {N t : Nat} {x : T3} {a : Int32} {g0 g : gFG} {f : gFF} {Q : Int32 → gFG → gFF → Prop} (hN : 1000 ≤ N) (ht : t ≤ 300) (hT : Tk3 (f 44) t x) (ha : tkC g0 g t x) (l : Int) (hl : a.toInt = l) (h1 : oknt (f 44) x l → ∀ g', tkC g0 g' t (nt (f 44) t x) → Q (nrt (f 44) x) g' f) (h2 : ¬ oknt (f 44) x l → Q (-1) g f) : wX7_readNumber N a g f Q := by
  subst hl
  have hT2 := hT
  obtain ⟨p, hT⟩ := hT
  exact q_readNum hN ht hT (Tk3_n hT2) ha.1 ha.2.1 ha.2.2.1 (fun hk g' a1 a2 a3 => h1 hk g' ⟨(a3 18 (by decide) (by decide)).trans ha.1, a1, a2, fun j h1 h2 => (a3 j h1 h2).trans (ha.2.2.2 j h1 h2)⟩) h2
theorem okn_m1 {b : Nat → Int32} {x : T3} {l : Int} (hl : 0 ≤ l) (h : oknt b x l) : ¬ nrt b x = -1 := by
  intro q
  have := h.2.1
  simp only [nrt] at q
  rw [q, z_m1] at this
  omega
theorem q_metal {N i : Nat} {g : gFG} {f : gFF} {Q : Int32 → gFG → gFF → Prop} (hi : i < 9) (h : Q (bi (decide (i < 3))) g f) : wX7_isOfMetal N (nI i) g f Q := by
  have : i = 0 ∨ i = 1 ∨ i = 2 ∨ i = 3 ∨ i = 4 ∨ i = 5 ∨ i = 6 ∨ i = 7 ∨ i = 8 := by omega
  unfold wX7_isOfMetal wX7_isOfMetal_j14
  rcases this with rfl | rfl | rfl | rfl | rfl | rfl | rfl | rfl | rfl <;> simp [nI] <;> exact h
theorem q_ruleC {N t i : Nat} {d : Int32} {x : T3} {g0 g : gFG} {f : gFF} {Q : Int32 → gFG → gFF → Prop} (hN : 1000 ≤ N) (ht : t ≤ 300) (hT : Tk3 (f 44) t x) (hi : i < 9) (hv : ∀ j, j < 14 → isWt (f 44) x j = decide (j = i)) (ha : tkC g0 g t x) (h1 : ∀ g' a c y, prs (f 44) t (nI i) (nt (f 44) t x) = (y, some (a, c)) → tkC g0 g' t y → wX6_add N d (nI i) a c g' f (fun g' f' => Q 1 g' f')) (h2 : ∀ g' y, prs (f 44) t (nI i) (nt (f 44) t x) = (y, none) → tkC g0 g' t y → Q 0 g' f) : wX7_readRule N d g f Q := by
  unfold wX7_readRule
  have hT0 := hT
  obtain ⟨p, hTp⟩ := hT0
  refine q_kindHere hN ht hTp ha.1 ha.2.1 ha.2.2.1 (Or.inr ⟨i, hi, rfl, hv⟩) ?_
  have hn1 : ¬ nI i = -1 := by rw [eq_I, nI_I (by omega), z_m1]; omega
  refine ⟨fun _ => ?_, fun c => absurd c hn1⟩
  refine q_advC hN ht hT ha (fun g1 ha1 => ?_)
  have hT1 := Tk3_s hT
  generalize nt (f 44) t x = y1 at h1 h2 ha1 hT1
  have vi : (nI i).toInt = i := nI_I (by omega)
  unfold wX7_wordAhead
  refine q_metal hi ?_
  by_cases h3 : i < 3
  · rw [decide_eq_true h3]
    refine ⟨fun c => absurd c (by decide), fun _ => ⟨by decide, fun c => absurd (show gsE 9 = 0 from by decide) c, fun _ => ?_⟩⟩
    have p3 : (nI i).toInt < 3 := by omega
    refine q_skipC hN ht (by decide) hT1 ha1 (fun w1 g2 ha2 => ?_) (fun w1 => ?_)
    · refine ⟨fun _ => ?_, fun c => absurd c (by decide)⟩
      have hT2 := Tk3_s hT1
      unfold wX7_readRule_j38
      refine q_numC hN ht hT2 ha2 0 rfl (fun o2 g3 ha3 => ?_) (fun o2 => ?_)
      · refine ⟨fun _ => ?_, fun c => absurd c (okn_m1 (Int.le_refl 0) o2)⟩
        have hT3 := Tk3_s hT2
        unfold wX7_wordBetween
        refine q_metal hi ?_
        rw [decide_eq_true h3]
        refine ⟨fun c => absurd c (by decide), fun _ => ⟨by decide, fun _ => ?_, fun c => absurd (show gsE 11 = 0 from by decide) c⟩⟩
        refine q_skipC hN ht (by decide) hT3 ha3 (fun w3 g4 ha4 => ?_) (fun w3 => ?_)
        · refine ⟨fun _ => ⟨fun _ => ?_, fun c => absurd c (by rw [eq_I, vi, z_8]; omega)⟩, fun c => absurd c (by decide)⟩
          have hT4 := Tk3_s hT3
          unfold wX7_readRule_j101
          refine q_numC hN ht hT4 ha4 _ rfl (fun o4 g5 ha5 => ?_) (fun o4 => ?_)
          · refine ⟨fun _ => ?_, fun c => absurd c (okn_m1 (by have := o2.2.1; simp only [nrt]; omega) o4)⟩
            exact h1 g5 _ _ _ (by unfold prs; rw [if_pos p3, if_pos w1, if_pos o2, if_pos w3, if_pos o4]) ha5
          · refine ⟨fun c => absurd rfl c, fun _ => ?_⟩
            exact h2 g4 _ (by unfold prs; rw [if_pos p3, if_pos w1, if_pos o2, if_pos w3, if_neg o4]) ha4
        · refine ⟨fun c => absurd rfl c, fun _ => ?_⟩
          exact h2 g3 _ (by unfold prs; rw [if_pos p3, if_pos w1, if_pos o2, if_neg w3]) ha3
      · refine ⟨fun c => absurd rfl c, fun _ => ?_⟩
        exact h2 g2 _ (by unfold prs; rw [if_pos p3, if_pos w1, if_neg o2]) ha2
    · refine ⟨fun c => absurd rfl c, fun _ => ?_⟩
      exact h2 g1 _ (by unfold prs; rw [if_pos p3, if_neg w1]) ha1
  · rw [decide_eq_false h3]
    refine ⟨fun _ => ⟨by decide, fun _ => ?_, fun c => absurd c (by decide)⟩, fun c => absurd rfl c⟩
    have p3 : ¬ (nI i).toInt < 3 := by omega
    unfold wX7_readRule_j38
    refine q_numC hN ht hT1 ha1 0 rfl (fun o1 g2 ha2 => ?_) (fun o1 => ?_)
    · refine ⟨fun _ => ?_, fun c => absurd c (okn_m1 (Int.le_refl 0) o1)⟩
      have hT2 := Tk3_s hT1
      unfold wX7_wordBetween
      refine q_metal hi ?_
      rw [decide_eq_false h3]
      refine ⟨fun _ => ⟨fun h8 => ⟨by decide, fun c => absurd c (by decide), fun _ => ?_⟩, fun h8 => ⟨by decide, fun _ => ?_, fun c => absurd (show gsE 12 = 0 from by decide) c⟩⟩, fun c => absurd rfl c⟩
      · exact h1 g2 _ _ _ (by unfold prs; rw [if_neg p3, if_pos o1, if_neg h8]) ha2
      · refine q_skipC hN ht (by decide) hT2 ha2 (fun w2 g3 ha3 => ?_) (fun w2 => ?_)
        · refine ⟨fun _ => ⟨fun c => absurd h8 c, fun _ => ?_⟩, fun c => absurd c (by decide)⟩
          have hT3 := Tk3_s hT2
          unfold wX7_readRule_j101
          refine q_numC hN ht hT3 ha3 1 rfl (fun o3 g4 ha4 => ?_) (fun o3 => ?_)
          · refine ⟨fun _ => ?_, fun c => absurd c (okn_m1 (by decide) o3)⟩
            exact h1 g4 _ _ _ (by unfold prs; rw [if_neg p3, if_pos o1, if_pos h8, if_pos w2, if_pos o3]) ha4
          · refine ⟨fun c => absurd rfl c, fun _ => ?_⟩
            exact h2 g3 _ (by unfold prs; rw [if_neg p3, if_pos o1, if_pos h8, if_pos w2, if_neg o3]) ha3
        · refine ⟨fun c => absurd rfl c, fun _ => ?_⟩
          exact h2 g2 _ (by unfold prs; rw [if_neg p3, if_pos o1, if_pos h8, if_neg w2]) ha2
    · refine ⟨fun c => absurd rfl c, fun _ => ?_⟩
      exact h2 g1 _ (by unfold prs; rw [if_neg p3, if_neg o1]) ha1
/-- the model's reader stands at a token -/
def tkM (g0 g : gFG) (t : Nat) (x : T3) : Prop := g 31 = nI t ∧ g 32 = nI x.1 ∧ g 33 = nI x.2.1 ∧ g 34 = nI x.2.2 ∧ ∀ j, j ≠ 32 → j ≠ 33 → j ≠ 34 → g j = g0 j
/-- the same, with the fault found -/
def tkB (g0 g : gFG) (t : Nat) (x : T3) : Prop := g 37 = 1 ∧ g 36 = nI x.1 ∧ ∀ j, j ≠ 32 → j ≠ 33 → j ≠ 34 → j ≠ 37 → j ≠ 36 → g j = g0 j
theorem q_nextM {N t : Nat} {x : T3} {b : Nat → Int32} {g0 g : gFG} {f : gFF} {w : Int64} {Q : gFG → gFF → Int64 → Prop} (hN : 1000 ≤ N) (ht : t ≤ 300) (hb : ∀ i, i < t → f 20 i = b i) (hT : Tk3 b t x) (ha : tkM g0 g t x) (h : ∀ g', tkM g0 g' t (nt b t x) → Q g' f (wot b (nt b t x))) : wX12_next N g f w Q :=
  q_next hN ht hb (Tk3_n hT) ha.1 ha.2.2.1 (fun g' a1 a2 a3 a4 => h g' ⟨(a4 31 (by decide) (by decide) (by decide)).trans ha.1, a1, a2, a3, fun j h1 h2 h3 => (a4 j h1 h2 h3).trans (ha.2.2.2.2 j h1 h2 h3)⟩)
theorem q_mustW {N t : Nat} {x : T3} {b : Nat → Int32} {o : Bool} {g0 g : gFG} {f : gFF} {Q : gFG → gFF → Int64 → Prop} (hN : 1000 ≤ N) (ht : t ≤ 300) (hb : ∀ i, i < t → f 20 i = b i) (h37 : g0 37 = 0) (hT : Tk3 b t x) (ha : tkM g0 g t x) (h1 : o = true → ∀ g', tkM g0 g' t (nt b t x) → Q g' f (wot b (nt b t x))) (h2 : ¬ o = true → ∀ g', tkB g0 g' t x → Q g' f (wot b x)) : wX12_must N (bi o) g f (wot b x) Q := by
  have h37' : g 37 = 0 := (ha.2.2.2.2 37 (by decide) (by decide) (by decide)).trans h37
  cases o with
  | true => exact q_mustT h37' (by decide) (q_nextM hN ht hb hT ha (h1 rfl))
  | false =>
    refine q_mustF h37' (h2 (by decide) _ ⟨?_, ?_, ?_⟩)
    · rw [up_n _ _ (by decide), up_s]
    · rw [up_s]; exact ha.2.1
    · intro j j1 j2 j3 j4 j5
      rw [up_n _ _ j5, up_n _ _ j4]
      exact ha.2.2.2.2 j j1 j2 j3
theorem q_numW {N t : Nat} {x : T3} {a : Int64} {b : Nat → Int32} {g0 g : gFG} {f : gFF} {Q : Int32 → gFG → gFF → Int64 → Prop} (hN : 1000 ≤ N) (ht : t ≤ 300) (hb : ∀ i, i < t → f 20 i = b i) (h37 : g0 37 = 0) (hT : Tk3 b t x) (ha : tkM g0 g t x) (l : Int) (hl : a.toInt = l) (h1 : oknt b x l → ∀ g', tkM g0 g' t (nt b t x) → Q (nrt b x) g' f (wot b (nt b t x))) (h2 : ¬ oknt b x l → ∀ v g', tkB g0 g' t x → Q v g' f (wot b x)) : wX12_number N a g f (wot b x) Q := by
  subst hl
  have h37' : g 37 = 0 := (ha.2.2.2.2 37 (by decide) (by decide) (by decide)).trans h37
  have hT2 := hT
  obtain ⟨p, hT⟩ := hT
  refine q_numM hN ht hb hT (Tk3_n hT2) ha.1 ha.2.1 ha.2.2.1 ha.2.2.2.1 h37' (fun hk g' a1 a2 a3 a4 => h1 hk g' ⟨(a4 31 (by decide) (by decide) (by decide)).trans ha.1, a1, a2, a3, fun j h1 h2 h3 => (a4 j h1 h2 h3).trans (ha.2.2.2.2 j h1 h2 h3)⟩) (fun hk v g' a1 a2 a3 => h2 hk v g' ⟨a1, a2, fun j h1 h2 h3 h4 h5 => (a3 j h4 h5).trans (ha.2.2.2.2 j h1 h2 h3)⟩)
/-- behind a fault nothing more is done -/
theorem q_numB {N : Nat} {a : Int64} {g : gFG} {f : gFF} {w : Int64} {Q : Int32 → gFG → gFF → Int64 → Prop} (h37 : ¬ g 37 = 0) (h : ∀ v, Q v g f w) : wX12_number N a g f w Q := by
  have hm : ∀ v a, wX12_must N a g f w (fun g34 f34 w34 => Q v g34 f34 w34) := fun v a => q_mustB h37 (h v)
  simp only [wX12_number, wX12_number_j33, wX12_number_j34, forall_eq, br1, br2, q_in, bi_0]
  by_cases h1 : g 34 = 2
  · rw [if_pos h1]
    split
    · exact hm _ _
    · exact hm _ _
  · rw [if_neg h1]; exact hm _ _
theorem q_iwB {N : Nat} {a1 a2 a3 a4 a5 a6 a7 : Int32} {g : gFG} {f : gFF} {w : Int64} {Q : Int32 → gFG → gFF → Int64 → Prop} (h : ∀ v, Q v g f w) : wX12_isWord N a1 a2 a3 a4 a5 a6 a7 g f w Q := by
  rw [q_iw]
  exact h _
theorem q_126B {N : Nat} {v1 v2 v3 : Int32} {g : gFG} {f : gFF} {w : Int64} {Q : gFG → gFF → Int64 → Prop} (h37 : ¬ g 37 = 0) (h : Q g f w) : wX12_readRule_j126 N Q v1 v2 v3 g f w := by
  unfold wX12_readRule_j126
  exact ⟨fun c => absurd c h37, fun _ => h⟩
/-- the model's rule behind its name -/
theorem q_ruleB {N : Nat} {v1 : Int32} {g : gFG} {f : gFF} {w : Int64} {Q : gFG → gFF → Int64 → Prop} (h37 : ¬ g 37 = 0) (h : Q g f w) : wX12_readRule_j24 N Q v1 0 g f w ∧ wX12_readRule_j24 N Q v1 1 g f w := by
  have key : ∀ a, wX12_readRule_j24 N Q v1 a g f w := by
    intro a
    unfold wX12_readRule_j24
    refine q_mustB h37 ⟨fun _ => q_numB h37 (fun v => ⟨fun _ => q_126B h37 h, fun _ => q_iwB (fun _ => q_mustB h37 (q_numB h37 (fun _ => q_126B h37 h)))⟩), fun _ => q_iwB (fun _ => q_mustB h37 (q_numB h37 (fun _ => q_iwB (fun _ => q_mustB h37 (q_numB h37 (fun _ => q_126B h37 h))))))⟩
  exact ⟨key 0, key 1⟩
