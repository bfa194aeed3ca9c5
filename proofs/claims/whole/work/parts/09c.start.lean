def adC0 (q : Nat) (u : List Nat) : Nat → Nat := fun k => ([q, u.getD 0 0, u.getD 2 0, u.getD 6 0, u.getD 10 0, u.getD 19 0, u.getD 15 0, u.getD 17 0, u.getD 39 0, u.getD 40 0, u.getD 41 0, u.getD 48 0, u.getD 52 0, u.getD 1 0, u.getD 3 0, u.getD 4 0, u.getD 5 0, u.getD 7 0, u.getD 8 0, u.getD 9 0, u.getD 11 0, u.getD 12 0, u.getD 13 0, u.getD 14 0, u.getD 20 0, u.getD 25 0, u.getD 30 0, u.getD 35 0, u.getD 36 0, u.getD 37 0, u.getD 38 0, u.getD 21 0, u.getD 22 0, u.getD 23 0, u.getD 24 0, u.getD 26 0, u.getD 27 0, u.getD 28 0, u.getD 29 0, u.getD 31 0, u.getD 32 0, u.getD 33 0, u.getD 34 0, u.getD 16 0, u.getD 18 0, u.getD 49 0, u.getD 50 0, u.getD 51 0, u.getD 53 0, u.getD 54 0, u.getD 55 0, u.getD 42 0, u.getD 43 0, u.getD 44 0, u.getD 45 0, u.getD 46 0, u.getD 47 0] : List Nat).getD k 0
def plC : List Nat := [0, 1, 3, 7, 11, 20, 16, 18, 40, 41, 42, 49, 53, 2, 4, 5, 6, 8, 9, 10, 12, 13, 14, 15, 21, 26, 31, 36, 37, 38, 39, 22, 23, 24, 25, 27, 28, 29, 30, 32, 33, 34, 35, 17, 19, 50, 51, 52, 54, 55, 56, 43, 44, 45, 46, 47, 48]
def g0C : gFG := fun k => match k with
  | 0 => (-1)
  | 1 => 0
  | 2 => 0
  | 3 => 1
  | 4 => 8
  | 5 => 8
  | 6 => 0
  | 7 => 0
  | 8 => 0
  | 9 => (-1)
  | 10 => 0
  | 11 => 0
  | 12 => (-1)
  | 13 => 0
  | 14 => 1
  | 15 => 0
  | 16 => 0
  | 17 => 0
  | 18 => 0
  | 19 => 0
  | 20 => 0
  | 21 => 0
  | 22 => 0
  | 23 => 0
  | 24 => 0
  | _ => 0
def f00 : gFF := fun _ _ => 0
def adM0 (q : Nat) (u : List Nat) : Nat → Nat := fun k => ([q, u.getD 0 0, u.getD 1 0, u.getD 2 0, u.getD 3 0, u.getD 4 0, u.getD 5 0, u.getD 6 0, u.getD 7 0, u.getD 8 0, u.getD 9 0, u.getD 10 0, u.getD 11 0, u.getD 12 0, u.getD 13 0, u.getD 14 0, u.getD 15 0, u.getD 16 0, u.getD 17 0, u.getD 18 0, u.getD 19 0, u.getD 20 0, u.getD 21 0, u.getD 22 0, u.getD 23 0] : List Nat).getD k 0
def g0M : gFG := fun k => match k with
  | 0 => 0
  | 1 => 0
  | 2 => 8
  | 3 => 8
  | 6 => 0
  | 13 => 0
  | 14 => 0
  | 15 => 0
  | 21 => (-1)
  | 24 => 0
  | 29 => 0
  | 31 => 0
  | 32 => 0
  | 33 => 0
  | 34 => 0
  | 36 => (-1)
  | 37 => 0
  | 38 => 0
  | 40 => 0
  | _ => 0
theorem nrC24 (q : Nat) (u : List Nat) : nrow [u.getD 21 0, u.getD 22 0, u.getD 23 0, u.getD 24 0] = (fun i => if i < layC.2.2.1 24 then some (adC0 q u (layC.2.2.2.2 24 + i)) else none) := by
  funext i
  unfold nrow
  match i with
  | 0 => rfl
  | 1 => rfl
  | 2 => rfl
  | 3 => rfl
  | i + 4 => rw [if_neg (by omega), if_neg (by show ¬ i + 4 < 4; omega)]
theorem nrC25 (q : Nat) (u : List Nat) : nrow [u.getD 26 0, u.getD 27 0, u.getD 28 0, u.getD 29 0] = (fun i => if i < layC.2.2.1 25 then some (adC0 q u (layC.2.2.2.2 25 + i)) else none) := by
  funext i
  unfold nrow
  match i with
  | 0 => rfl
  | 1 => rfl
  | 2 => rfl
  | 3 => rfl
  | i + 4 => rw [if_neg (by omega), if_neg (by show ¬ i + 4 < 4; omega)]
theorem nrC26 (q : Nat) (u : List Nat) : nrow [u.getD 31 0, u.getD 32 0, u.getD 33 0, u.getD 34 0] = (fun i => if i < layC.2.2.1 26 then some (adC0 q u (layC.2.2.2.2 26 + i)) else none) := by
  funext i
  unfold nrow
  match i with
  | 0 => rfl
  | 1 => rfl
  | 2 => rfl
  | 3 => rfl
  | i + 4 => rw [if_neg (by omega), if_neg (by show ¬ i + 4 < 4; omega)]
set_option maxHeartbeats 4000000 in
theorem toC {D : va_G} {cs : gCs} {q : Nat} {u : List Nat} {H : Heap} {W2 : va_W} (hP : va_P D gcl (mkX11 cs q u ++ W2) H) : va_P D gcl (gW layC cs (adC0 q u) (g0C, f00, 0)) H := by
  intro k x hx
  obtain ⟨hk, rfl⟩ := gW_of hx
  replace hk : k < 57 := hk
  match k, hk with
  | 0, _ => exact hP 0 _ rfl
  | 1, _ => exact hP 1 _ rfl
  | 2, _ => exact hP 3 _ rfl
  | 3, _ => exact hP 7 _ rfl
  | 4, _ => exact hP 11 _ rfl
  | 5, _ => exact hP 20 _ rfl
  | 6, _ => exact hP 16 _ rfl
  | 7, _ => exact hP 18 _ rfl
  | 8, _ => exact hP 40 _ rfl
  | 9, _ => exact hP 41 _ rfl
  | 10, _ => exact hP 42 _ rfl
  | 11, _ => exact hP 49 _ rfl
  | 12, _ => exact hP 53 _ rfl
  | 13, _ => exact hP 2 _ rfl
  | 14, _ => exact hP 4 _ rfl
  | 15, _ => exact hP 5 _ rfl
  | 16, _ => exact hP 6 _ rfl
  | 17, _ => exact hP 8 _ rfl
  | 18, _ => exact hP 9 _ rfl
  | 19, _ => exact hP 10 _ rfl
  | 20, _ => exact hP 12 _ rfl
  | 21, _ => exact hP 13 _ rfl
  | 22, _ => exact hP 14 _ rfl
  | 23, _ => exact hP 15 _ rfl
  | 24, _ =>
    have h9 := hP 21 _ rfl
    rw [nrC24 q u] at h9
    exact h9
  | 25, _ =>
    have h9 := hP 26 _ rfl
    rw [nrC25 q u] at h9
    exact h9
  | 26, _ =>
    have h9 := hP 31 _ rfl
    rw [nrC26 q u] at h9
    exact h9
  | 27, _ => exact hP 36 _ rfl
  | 28, _ => exact hP 37 _ rfl
  | 29, _ => exact hP 38 _ rfl
  | 30, _ => exact hP 39 _ rfl
  | 31, _ => exact hP 22 _ rfl
  | 32, _ => exact hP 23 _ rfl
  | 33, _ => exact hP 24 _ rfl
  | 34, _ => exact hP 25 _ rfl
  | 35, _ => exact hP 27 _ rfl
  | 36, _ => exact hP 28 _ rfl
  | 37, _ => exact hP 29 _ rfl
  | 38, _ => exact hP 30 _ rfl
  | 39, _ => exact hP 32 _ rfl
  | 40, _ => exact hP 33 _ rfl
  | 41, _ => exact hP 34 _ rfl
  | 42, _ => exact hP 35 _ rfl
  | 43, _ => exact hP 17 _ rfl
  | 44, _ => exact hP 19 _ rfl
  | 45, _ => exact hP 50 _ rfl
  | 46, _ => exact hP 51 _ rfl
  | 47, _ => exact hP 52 _ rfl
  | 48, _ => exact hP 54 _ rfl
  | 49, _ => exact hP 55 _ rfl
  | 50, _ => exact hP 56 _ rfl
  | 51, _ => exact hP 43 _ rfl
  | 52, _ => exact hP 44 _ rfl
  | 53, _ => exact hP 45 _ rfl
  | 54, _ => exact hP 46 _ rfl
  | 55, _ => exact hP 47 _ rfl
  | 56, _ => exact hP 48 _ rfl
  | k + 57, h => omega
set_option maxHeartbeats 4000000 in
theorem atC {cs : gCs} {q : Nat} {u : List Nat} {W2 : va_W} (k : Nat) (hk : k < 57) : ∃ e, (mkX11 cs q u ++ W2)[plC.getD k 0]? = some (adC0 q u k, e) := by
  match k, hk with
  | 0, _ => exact ⟨_, rfl⟩
  | 1, _ => exact ⟨_, rfl⟩
  | 2, _ => exact ⟨_, rfl⟩
  | 3, _ => exact ⟨_, rfl⟩
  | 4, _ => exact ⟨_, rfl⟩
  | 5, _ => exact ⟨_, rfl⟩
  | 6, _ => exact ⟨_, rfl⟩
  | 7, _ => exact ⟨_, rfl⟩
  | 8, _ => exact ⟨_, rfl⟩
  | 9, _ => exact ⟨_, rfl⟩
  | 10, _ => exact ⟨_, rfl⟩
  | 11, _ => exact ⟨_, rfl⟩
  | 12, _ => exact ⟨_, rfl⟩
  | 13, _ => exact ⟨_, rfl⟩
  | 14, _ => exact ⟨_, rfl⟩
  | 15, _ => exact ⟨_, rfl⟩
  | 16, _ => exact ⟨_, rfl⟩
  | 17, _ => exact ⟨_, rfl⟩
  | 18, _ => exact ⟨_, rfl⟩
  | 19, _ => exact ⟨_, rfl⟩
  | 20, _ => exact ⟨_, rfl⟩
  | 21, _ => exact ⟨_, rfl⟩
  | 22, _ => exact ⟨_, rfl⟩
  | 23, _ => exact ⟨_, rfl⟩
  | 24, _ => exact ⟨_, rfl⟩
  | 25, _ => exact ⟨_, rfl⟩
  | 26, _ => exact ⟨_, rfl⟩
  | 27, _ => exact ⟨_, rfl⟩
  | 28, _ => exact ⟨_, rfl⟩
  | 29, _ => exact ⟨_, rfl⟩
  | 30, _ => exact ⟨_, rfl⟩
  | 31, _ => exact ⟨_, rfl⟩
  | 32, _ => exact ⟨_, rfl⟩
  | 33, _ => exact ⟨_, rfl⟩
  | 34, _ => exact ⟨_, rfl⟩
  | 35, _ => exact ⟨_, rfl⟩
  | 36, _ => exact ⟨_, rfl⟩
  | 37, _ => exact ⟨_, rfl⟩
  | 38, _ => exact ⟨_, rfl⟩
  | 39, _ => exact ⟨_, rfl⟩
  | 40, _ => exact ⟨_, rfl⟩
  | 41, _ => exact ⟨_, rfl⟩
  | 42, _ => exact ⟨_, rfl⟩
  | 43, _ => exact ⟨_, rfl⟩
  | 44, _ => exact ⟨_, rfl⟩
  | 45, _ => exact ⟨_, rfl⟩
  | 46, _ => exact ⟨_, rfl⟩
  | 47, _ => exact ⟨_, rfl⟩
  | 48, _ => exact ⟨_, rfl⟩
  | 49, _ => exact ⟨_, rfl⟩
  | 50, _ => exact ⟨_, rfl⟩
  | 51, _ => exact ⟨_, rfl⟩
  | 52, _ => exact ⟨_, rfl⟩
  | 53, _ => exact ⟨_, rfl⟩
  | 54, _ => exact ⟨_, rfl⟩
  | 55, _ => exact ⟨_, rfl⟩
  | 56, _ => exact ⟨_, rfl⟩
  | k + 57, h => omega
theorem lenC {cs : gCs} {q : Nat} {u : List Nat} : (mkX11 cs q u).length = 57 := rfl
theorem toM {D : va_G} {cs : gCs} {q : Nat} {u : List Nat} {H : Heap} {W1 : va_W} (hl : W1.length = 57) (hP : va_P D gcl (W1 ++ mkX12 cs q u) H) : va_P D gcl (gW layM cs (adM0 q u) (g0M, f00, 0)) H := by
  intro k x hx
  obtain ⟨hk, rfl⟩ := gW_of hx
  replace hk : k < 25 := hk
  have key : ∀ (j : Nat) (y : Nat × va_E), (mkX12 cs q u)[j]? = some y → va_at D gcl y H := fun j y hj => hP (57 + j) y (by rw [List.getElem?_append_right (by omega), hl, Nat.add_sub_cancel_left]; exact hj)
  match k, hk with
  | 0, _ => exact key 0 _ rfl
  | 1, _ => exact key 1 _ rfl
  | 2, _ => exact key 2 _ rfl
  | 3, _ => exact key 3 _ rfl
  | 4, _ => exact key 4 _ rfl
  | 5, _ => exact key 5 _ rfl
  | 6, _ => exact key 6 _ rfl
  | 7, _ => exact key 7 _ rfl
  | 8, _ => exact key 8 _ rfl
  | 9, _ => exact key 9 _ rfl
  | 10, _ => exact key 10 _ rfl
  | 11, _ => exact key 11 _ rfl
  | 12, _ => exact key 12 _ rfl
  | 13, _ => exact key 13 _ rfl
  | 14, _ => exact key 14 _ rfl
  | 15, _ => exact key 15 _ rfl
  | 16, _ => exact key 16 _ rfl
  | 17, _ => exact key 17 _ rfl
  | 18, _ => exact key 18 _ rfl
  | 19, _ => exact key 19 _ rfl
  | 20, _ => exact key 20 _ rfl
  | 21, _ => exact key 21 _ rfl
  | 22, _ => exact key 22 _ rfl
  | 23, _ => exact key 23 _ rfl
  | 24, _ => exact key 24 _ rfl
  | k + 25, h => omega
theorem atM {cs : gCs} {q : Nat} {u : List Nat} {W1 : va_W} (hl : W1.length = 57) (k : Nat) (hk : k < 25) : ∃ e, (W1 ++ mkX12 cs q u)[57 + k]? = some (adM0 q u k, e) := by
  rw [List.getElem?_append_right (by omega), hl, Nat.add_sub_cancel_left]
  match k, hk with
  | 0, _ => exact ⟨_, rfl⟩
  | 1, _ => exact ⟨_, rfl⟩
  | 2, _ => exact ⟨_, rfl⟩
  | 3, _ => exact ⟨_, rfl⟩
  | 4, _ => exact ⟨_, rfl⟩
  | 5, _ => exact ⟨_, rfl⟩
  | 6, _ => exact ⟨_, rfl⟩
  | 7, _ => exact ⟨_, rfl⟩
  | 8, _ => exact ⟨_, rfl⟩
  | 9, _ => exact ⟨_, rfl⟩
  | 10, _ => exact ⟨_, rfl⟩
  | 11, _ => exact ⟨_, rfl⟩
  | 12, _ => exact ⟨_, rfl⟩
  | 13, _ => exact ⟨_, rfl⟩
  | 14, _ => exact ⟨_, rfl⟩
  | 15, _ => exact ⟨_, rfl⟩
  | 16, _ => exact ⟨_, rfl⟩
  | 17, _ => exact ⟨_, rfl⟩
  | 18, _ => exact ⟨_, rfl⟩
  | 19, _ => exact ⟨_, rfl⟩
  | 20, _ => exact ⟨_, rfl⟩
  | 21, _ => exact ⟨_, rfl⟩
  | 22, _ => exact ⟨_, rfl⟩
  | 23, _ => exact ⟨_, rfl⟩
  | 24, _ => exact ⟨_, rfl⟩
  | k + 25, h => omega
theorem plC_inj : ∀ i : Nat, i < 57 → ∀ j : Nat, j < 57 → plC.getD i 0 = plC.getD j 0 → i = j := by decide +kernel
theorem plC_lt : ∀ i : Nat, i < 57 → plC.getD i 0 < 57 := by decide +kernel
/-- the worlds' addresses -/
theorem lads {cs : gCs} {q q2 n : Nat} {u u2 : List Nat} (hD : va_D (fun x => n ≤ x) (mkX11 cs q u ++ mkX12 cs q2 u2)) : gInj layC (adC0 q u) ∧ gInj layM (adM0 q2 u2) ∧ (∀ k, k < 57 → n ≤ adC0 q u k) ∧ (∀ k, k < 25 → n ≤ adM0 q2 u2 k) ∧ ∀ i j, i < 57 → j < 25 → adC0 q u i ≠ adM0 q2 u2 j := by
  refine ⟨fun i j hi hj e => ?_, fun i j hi hj e => ?_, fun k hk => ?_, fun k hk => ?_, fun i j hi hj e => ?_⟩
  · obtain ⟨e1, h1⟩ := atC (cs := cs) (q := q) (u := u) (W2 := mkX12 cs q2 u2) i hi
    obtain ⟨e2, h2⟩ := atC (cs := cs) (q := q) (u := u) (W2 := mkX12 cs q2 u2) j hj
    exact plC_inj i hi j hj (hD.1 _ _ _ _ h1 h2 e)
  · obtain ⟨e1, h1⟩ := atM (cs := cs) (q := q2) (u := u2) (W1 := mkX11 cs q u) lenC i hi
    obtain ⟨e2, h2⟩ := atM (cs := cs) (q := q2) (u := u2) (W1 := mkX11 cs q u) lenC j hj
    have := hD.1 _ _ _ _ h1 h2 e
    omega
  · obtain ⟨e1, h1⟩ := atC (cs := cs) (q := q) (u := u) (W2 := mkX12 cs q2 u2) k hk
    exact hD.2 _ _ h1
  · obtain ⟨e1, h1⟩ := atM (cs := cs) (q := q2) (u := u2) (W1 := mkX11 cs q u) lenC k hk
    exact hD.2 _ _ h1
  · obtain ⟨e1, h1⟩ := atC (cs := cs) (q := q) (u := u) (W2 := mkX12 cs q2 u2) i hi
    obtain ⟨e2, h2⟩ := atM (cs := cs) (q := q2) (u := u2) (W1 := mkX11 cs q u) lenC j hj
    have h3 := hD.1 _ _ _ _ h1 h2 e
    have h4 := plC_lt i hi
    omega
def gtm (i : Nat) : Term := .string "PieceMoulds$RuleReader" (gsx.getD i (0, "")).1
abbrev gfl : List Cond := flatC (Jvm.Cond.and given_1 narrow_1)
theorem fl_ex : ∀ i : Nat, i < 14 → Cond.exactly (gtm i) "java/lang/String" ∈ gfl := by decide +kernel
theorem fl_co : ∀ i : Nat, i < 14 → Cond.eq (.field (gtm i) "java/lang/String" "coder" "B") (.int 0) ∈ gfl := by decide +kernel
theorem fl_ar : ∀ i : Nat, i < 14 → Cond.arrayOf (.field (gtm i) "java/lang/String" "value" "[B") .byte ∈ gfl := by decide +kernel
theorem fl_le : ∀ i : Nat, i < 14 → Cond.eq (.length (.field (gtm i) "java/lang/String" "value" "[B")) (.int (Int32.ofNat (gsl.getD i 0))) ∈ gfl := by decide +kernel
theorem fl_el : ∀ i : Nat, i < 14 → ∀ j : Nat, j < gsl.getD i 0 → Cond.eq (.elem (.field (gtm i) "java/lang/String" "value" "[B") (.int (Int32.ofNat j))) (.int ((gsb.getD i []).getD j 0)) ∈ gfl := by decide +kernel
theorem fl_ne0 : ∀ j : Nat, j < 14 → 0 ≠ j → Cond.not (Cond.eq (gtm 0) (gtm j)) ∈ gfl ∨ Cond.not (Cond.eq (gtm j) (gtm 0)) ∈ gfl := by decide +kernel
theorem fl_ne1 : ∀ j : Nat, j < 14 → 1 ≠ j → Cond.not (Cond.eq (gtm 1) (gtm j)) ∈ gfl ∨ Cond.not (Cond.eq (gtm j) (gtm 1)) ∈ gfl := by decide +kernel
theorem fl_ne2 : ∀ j : Nat, j < 14 → 2 ≠ j → Cond.not (Cond.eq (gtm 2) (gtm j)) ∈ gfl ∨ Cond.not (Cond.eq (gtm j) (gtm 2)) ∈ gfl := by decide +kernel
theorem fl_ne3 : ∀ j : Nat, j < 14 → 3 ≠ j → Cond.not (Cond.eq (gtm 3) (gtm j)) ∈ gfl ∨ Cond.not (Cond.eq (gtm j) (gtm 3)) ∈ gfl := by decide +kernel
theorem fl_ne4 : ∀ j : Nat, j < 14 → 4 ≠ j → Cond.not (Cond.eq (gtm 4) (gtm j)) ∈ gfl ∨ Cond.not (Cond.eq (gtm j) (gtm 4)) ∈ gfl := by decide +kernel
theorem fl_ne5 : ∀ j : Nat, j < 14 → 5 ≠ j → Cond.not (Cond.eq (gtm 5) (gtm j)) ∈ gfl ∨ Cond.not (Cond.eq (gtm j) (gtm 5)) ∈ gfl := by decide +kernel
theorem fl_ne6 : ∀ j : Nat, j < 14 → 6 ≠ j → Cond.not (Cond.eq (gtm 6) (gtm j)) ∈ gfl ∨ Cond.not (Cond.eq (gtm j) (gtm 6)) ∈ gfl := by decide +kernel
theorem fl_ne7 : ∀ j : Nat, j < 14 → 7 ≠ j → Cond.not (Cond.eq (gtm 7) (gtm j)) ∈ gfl ∨ Cond.not (Cond.eq (gtm j) (gtm 7)) ∈ gfl := by decide +kernel
theorem fl_ne8 : ∀ j : Nat, j < 14 → 8 ≠ j → Cond.not (Cond.eq (gtm 8) (gtm j)) ∈ gfl ∨ Cond.not (Cond.eq (gtm j) (gtm 8)) ∈ gfl := by decide +kernel
theorem fl_ne9 : ∀ j : Nat, j < 14 → 9 ≠ j → Cond.not (Cond.eq (gtm 9) (gtm j)) ∈ gfl ∨ Cond.not (Cond.eq (gtm j) (gtm 9)) ∈ gfl := by decide +kernel
theorem fl_ne10 : ∀ j : Nat, j < 14 → 10 ≠ j → Cond.not (Cond.eq (gtm 10) (gtm j)) ∈ gfl ∨ Cond.not (Cond.eq (gtm j) (gtm 10)) ∈ gfl := by decide +kernel
theorem fl_ne11 : ∀ j : Nat, j < 14 → 11 ≠ j → Cond.not (Cond.eq (gtm 11) (gtm j)) ∈ gfl ∨ Cond.not (Cond.eq (gtm j) (gtm 11)) ∈ gfl := by decide +kernel
theorem fl_ne12 : ∀ j : Nat, j < 14 → 12 ≠ j → Cond.not (Cond.eq (gtm 12) (gtm j)) ∈ gfl ∨ Cond.not (Cond.eq (gtm j) (gtm 12)) ∈ gfl := by decide +kernel
theorem fl_ne13 : ∀ j : Nat, j < 14 → 13 ≠ j → Cond.not (Cond.eq (gtm 13) (gtm j)) ∈ gfl ∨ Cond.not (Cond.eq (gtm j) (gtm 13)) ∈ gfl := by decide +kernel
theorem fl_ne (i : Nat) (hi : i < 14) : ∀ j : Nat, j < 14 → i ≠ j → Cond.not (Cond.eq (gtm i) (gtm j)) ∈ gfl ∨ Cond.not (Cond.eq (gtm j) (gtm i)) ∈ gfl := by
  match i, hi with
  | 0, _ => exact fl_ne0
  | 1, _ => exact fl_ne1
  | 2, _ => exact fl_ne2
  | 3, _ => exact fl_ne3
  | 4, _ => exact fl_ne4
  | 5, _ => exact fl_ne5
  | 6, _ => exact fl_ne6
  | 7, _ => exact fl_ne7
  | 8, _ => exact fl_ne8
  | 9, _ => exact fl_ne9
  | 10, _ => exact fl_ne10
  | 11, _ => exact fl_ne11
  | 12, _ => exact fl_ne12
  | 13, _ => exact fl_ne13
  | i + 14, h => omega
theorem fl_st : ∀ i : Nat, i < 14 → Cond.stringRef "PieceMoulds$RuleReader" (gsx.getD i (0, "")).1 (gsx.getD i (0, "")).2 ∈ lw_tbl := by decide +kernel
theorem fl_aX : Cond.arrayOf (.static "PieceMoulds" "WAY_X" "[I") .int ∈ gfl ∧ Cond.eq (.length (.static "PieceMoulds" "WAY_X" "[I")) (.int 4) ∈ gfl := by decide +kernel
theorem fl_eX : ∀ j : Nat, j < 4 → Cond.eq (.elem (.static "PieceMoulds" "WAY_X" "[I") (.int (Int32.ofNat j))) (.int (gwx j)) ∈ gfl := by decide +kernel
theorem fl_aY : Cond.arrayOf (.static "PieceMoulds" "WAY_Y" "[I") .int ∈ gfl ∧ Cond.eq (.length (.static "PieceMoulds" "WAY_Y" "[I")) (.int 4) ∈ gfl := by decide +kernel
theorem fl_eY : ∀ j : Nat, j < 4 → Cond.eq (.elem (.static "PieceMoulds" "WAY_Y" "[I") (.int (Int32.ofNat j))) (.int (gwy j)) ∈ gfl := by decide +kernel
theorem fl_cs : Cond.eq (.static "java/lang/String" "COMPACT_STRINGS" "Z") (.int 1) ∈ gfl ∧ Cond.isRef (.static "jdk/internal/util/Preconditions" "SIOOBE_FORMATTER" "Ljava/util/function/BiFunction;") ∈ gfl := by decide +kernel
theorem lZc {s : State} {b : Nat} (hts : ∀ w ∈ lw_tbl, w.before #[Value.ref b] s = true) (hgv : (Jvm.Cond.and given_1 narrow_1).before #[Value.ref b] s = true) : ∃ (tX tY : Nat) (sK sV : Nat → Nat), ∀ adC : Nat → Nat, (∀ k, k < 57 → s.heap.size ≤ adC k) → gZc adC tX tY sK sV s := by
  have hf := flat_of_before _ hgv
  have hA : ∀ a : Nat, a < s.heap.size → ¬ (fun q => s.heap.size ≤ q) a := fun a h => Nat.not_le.mpr h
  obtain ⟨tX, eX, hTX⟩ := va_Tof (tm := .static "PieceMoulds" "WAY_X" "[I") (ty := .int) (N := 4) (f := fun j => .int (gwx j)) (by decide) (hf _ fl_aX.1) (va_eqt (hf _ fl_aX.2)) (fun j hj => va_eqt (hf _ (fl_eX j hj))) hA
  obtain ⟨tY, eY, hTY⟩ := va_Tof (tm := .static "PieceMoulds" "WAY_Y" "[I") (ty := .int) (N := 4) (f := fun j => .int (gwy j)) (by decide) (hf _ fl_aY.1) (va_eqt (hf _ fl_aY.2)) (fun j hj => va_eqt (hf _ (fl_eY j hj))) hA
  have hZX := va_Zof (A := fun q => s.heap.size ≤ q) (hts _ (List.mem_of_getElem? (i := 477) (by decide +kernel))) (hts _ (List.mem_of_getElem? (i := 63) (by decide +kernel))) eX hA
  have hZY := va_Zof (A := fun q => s.heap.size ≤ q) (hts _ (List.mem_of_getElem? (i := 475) (by decide +kernel))) (hts _ (List.mem_of_getElem? (i := 63) (by decide +kernel))) eY hA
  have hZC := va_Zof (A := fun q => s.heap.size ≤ q) (hts _ (List.mem_of_getElem? (i := 847) (by decide +kernel))) (hts _ (List.mem_of_getElem? (i := 80) (by decide +kernel))) (va_eqt (hf _ fl_cs.1)) hA
  have hZF := va_Zqof (A := fun q => s.heap.size ≤ q) (hts _ (List.mem_of_getElem? (i := 863) (by decide +kernel))) (hts _ (List.mem_of_getElem? (i := 82) (by decide +kernel))) (hf _ fl_cs.2) hA
  obtain ⟨sK, sV, hSt, hEv⟩ := vk_Sof (tm := gtm) (N := 14) (len := gsl) (byt := gsb) (fun i hi => Nat.lt_trans (gsl_ok i hi) (by decide)) (fun i hi => hf _ (fl_ex i hi)) (fun i hi => hf _ (fl_co i hi)) (fun i hi => hf _ (fl_ar i hi)) (fun i hi => hf _ (fl_le i hi)) (fun i hi j hj => hf _ (fl_el i hi j hj)) (fun i j hi hj hne => (fl_ne i hi j hj hne).imp (fun h => hf _ h) (fun h => hf _ h)) hA
  refine ⟨tX, tY, sK, sV, fun adC hg => ?_⟩
  have hn := lAC hg
  refine ⟨⟨hZX.narrow hn, hTX.narrow hn⟩, ⟨hZY.narrow hn, hTY.narrow hn⟩, ⟨va_Nw.of rfl (hts _ (List.mem_of_getElem? (i := 476) (by decide +kernel))), va_Nw.of rfl (hts _ (List.mem_of_getElem? (i := 474) (by decide +kernel))), va_Nw.of rfl (hts _ (List.mem_of_getElem? (i := 559) (by decide +kernel))), va_Nw.of rfl (hts _ (List.mem_of_getElem? (i := 560) (by decide +kernel))), va_Nw.of rfl (hts _ (List.mem_of_getElem? (i := 567) (by decide +kernel)))⟩, hSt.narrow hn, fun i q hq => ?_, hZC.narrow hn, hZF.narrow hn⟩
  have hi : i < 14 := (List.getElem?_eq_some_iff.mp hq).1
  have hd : gsx.getD i (0, "") = q := by rw [List.getD_eq_getElem?_getD, hq]; rfl
  have h1 := hts _ (fl_st i hi)
  have h2 := hEv i hi
  unfold gtm at h2
  rw [hd] at h1 h2
  exact vk_R.of h1 h2
theorem lKc {s : State} {b : Nat} (hts : ∀ w ∈ lw_tbl, w.before #[Value.ref b] s = true) : ∃ (D : va_G) (cs : gCs), va_K D gcl (gty cs) s := by
  obtain ⟨c0, i0, k0⟩ := u_known (C := RX0) (T := TX0) (N := 2) (n := 2) hts (fun w hw => TT_tbl (inX0 w hw)) (hts _ (List.mem_of_getElem? (i := 192) (by decide +kernel)))
  obtain ⟨c1, i1, k1⟩ := u_known (C := RX1) (T := TX1) (N := 7) (n := 7) hts (fun w hw => TT_tbl (inX1 w hw)) (hts _ (List.mem_of_getElem? (i := 113) (by decide +kernel)))
  obtain ⟨c2, i2, k2⟩ := u_known (C := RX2) (T := TX2) (N := 4) (n := 4) hts (fun w hw => TT_tbl (inX2 w hw)) (hts _ (List.mem_of_getElem? (i := 93) (by decide +kernel)))
  obtain ⟨c3, i3, k3⟩ := u_known (C := RX3) (T := TX3) (N := 3) (n := 3) hts (fun w hw => TT_tbl (inX3 w hw)) (hts _ (List.mem_of_getElem? (i := 279) (by decide +kernel)))
  obtain ⟨c4, i4, k4⟩ := u_known (C := RX4) (T := TX4) (N := 5) (n := 5) hts (fun w hw => TT_tbl (inX4 w hw)) (hts _ (List.mem_of_getElem? (i := 170) (by decide +kernel)))
  obtain ⟨c5, i5, k5⟩ := u_known (C := RX5) (T := TX5) (N := 12) (n := 12) hts (fun w hw => TT_tbl (inX5 w hw)) (hts _ (List.mem_of_getElem? (i := 218) (by decide +kernel)))
  obtain ⟨c6, i6, k6⟩ := u_known (C := RX6) (T := TX6) (N := 4) (n := 4) hts (fun w hw => TT_tbl (inX6 w hw)) (hts _ (List.mem_of_getElem? (i := 326) (by decide +kernel)))
  obtain ⟨c7, i7, k7⟩ := u_known (C := RX7) (T := TX7) (N := 3) (n := 3) hts (fun w hw => TT_tbl (inX7 w hw)) (hts _ (List.mem_of_getElem? (i := 263) (by decide +kernel)))
  obtain ⟨c8, i8, k8⟩ := u_known (C := RX8) (T := TX8) (N := 7) (n := 7) hts (fun w hw => TT_tbl (inX8 w hw)) (hts _ (List.mem_of_getElem? (i := 142) (by decide +kernel)))
  obtain ⟨c9, i9, k9⟩ := u_known (C := RX9) (T := TX9) (N := 2) (n := 2) hts (fun w hw => TT_tbl (inX9 w hw)) (hts _ (List.mem_of_getElem? (i := 205) (by decide +kernel)))
  obtain ⟨c10, i10, k10⟩ := u_known (C := RX10) (T := TX10) (N := 8) (n := 8) hts (fun w hw => TT_tbl (inX10 w hw)) (hts _ (List.mem_of_getElem? (i := 295) (by decide +kernel)))
  obtain ⟨c11, i11, k11⟩ := u_known (C := RX11) (T := TX11) (N := 14) (n := 14) hts (fun w hw => TT_tbl (inX11 w hw)) (hts _ (List.mem_of_getElem? (i := 85) (by decide +kernel)))
  obtain ⟨c12, i12, k12⟩ := u_known (C := RX12) (T := TX12) (N := 44) (n := 44) hts (fun w hw => TT_tbl (inX12 w hw)) (hts _ (List.mem_of_getElem? (i := 1066) (by decide +kernel)))
  obtain ⟨cI, kI, mI, a1, a2, a3⟩ := Cond.arrayClass_spec (type := .int) (hts _ (List.mem_of_getElem? (i := 111) (by decide +kernel)))
  obtain ⟨cZ, kZ, mZ, b1, b2, b3⟩ := Cond.arrayClass_spec (type := .boolean) (hts _ (List.mem_of_getElem? (i := 140) (by decide +kernel)))
  obtain ⟨mJ, cJ, kJ, d1, d2, d3, d4, d5⟩ := arrayOver_specB (t := .int) (hts _ (List.mem_of_getElem? (i := 224) (by decide +kernel)))
  refine ⟨(fun k => if k = 0 then c0 else if k = 1 then c1 else if k = 2 then c2 else if k = 3 then c3 else if k = 4 then c4 else if k = 5 then c5 else if k = 6 then c6 else if k = 7 then c7 else if k = 8 then c8 else if k = 9 then c9 else if k = 10 then c10 else if k = 11 then c11 else c12, fun k => if k = 0 then i0 else if k = 1 then i1 else if k = 2 then i2 else if k = 3 then i3 else if k = 4 then i4 else if k = 5 then i5 else if k = 6 then i6 else if k = 7 then i7 else if k = 8 then i8 else if k = 9 then i9 else if k = 10 then i10 else if k = 11 then i11 else i12), (cI, cZ, cJ), fun k q hq => ?_, fun k q hq => ?_⟩
  · match k, hq with
    | 0, hq => cases hq; exact k0
    | 1, hq => cases hq; exact k1
    | 2, hq => cases hq; exact k2
    | 3, hq => cases hq; exact k3
    | 4, hq => cases hq; exact k4
    | 5, hq => cases hq; exact k5
    | 6, hq => cases hq; exact k6
    | 7, hq => cases hq; exact k7
    | 8, hq => cases hq; exact k8
    | 9, hq => cases hq; exact k9
    | 10, hq => cases hq; exact k10
    | 11, hq => cases hq; exact k11
    | 12, hq => cases hq; exact k12
    | k + 13, hq => simp [gcl] at hq
  · match k, hq with
    | 0, hq => cases hq; exact ⟨fun n z => ⟨(fun q hq => by cases hq), kI, a2, mI, a3⟩, a1⟩
    | 1, hq => cases hq; exact ⟨fun n z => ⟨(fun q hq => by cases hq), kZ, b2, mZ, b3⟩, b1⟩
    | 2, hq => cases hq; exact ⟨fun n z => ⟨(fun q hq => by cases hq), kJ, d3, mJ, d4⟩, d5⟩
    | k + 3, hq => simp [gty] at hq
/-- a constructor, called by the law on the cell made last -/
theorem wctor {p : Program} {l : Launch} {e : Env} {s : State} {m : MethodId} {b : Nat} {below : List Frame} {meth : Method} {c : Code} {D : va_G} {cs : gCs} {Zn : State → Prop} {H : Heap} {locs : List Loc} {nc ns pc : Nat} {Qf : State → Prop} {ls : Array Slot} {tl : va_W} {st : List Value} {y : MethodName} {bt : ByteArray} {mL d2 idx q cj mc2 ms2 : Nat} {f0 : List Value} {mk : List Nat → va_W} (hx : p.tables.exec = Jvm.exec) (hb : c.code = code) (hml : c.maxLocals = 4) (hown : s.vm.findClass R_law = some m.cls) (hts : ∀ w ∈ lw_tbl, w.before #[Value.ref b] s = true) (hK : va_K D gcl (gty cs) s) (hz2 : nZok Zn) (hZ : Zn s) (hm : nCT l D cs Zn d2 y bt mL q cj f0 [] mc2 ms2 mk) (hce : gCe y bt mL 0 none ∧ Cond.instanceMethod y ∈ TT ∧ y.name = "<init>") (hw : Cond.methodLink R_law idx y ∈ TT) (hk : (st.map fun v => v.category).sum ≤ 8 ∧ d2 ≤ 100) (hroom : nc + mc2 ≤ 600000 ∧ ns + ms2 ≤ 7302250) (hls : ls.size = 4) (hd : decode code pc = .ok (.invokespecial idx, 3)) (hP' : va_P D gcl (tl ++ [(q, .inr (cj, f0))]) H) (hD' : va_D (fun x => s.heap.size ≤ x) (tl ++ [(q, .inr (cj, f0))])) (hS : va_S (fun x => s.heap.size ≤ x) s.heap H locs)
    (k : ∀ (u : List Nat) (H1 : Heap) (locs1 : List Loc), va_P D gcl (tl ++ mk u) H1 → va_D (fun x => s.heap.size ≤ x) (tl ++ mk u) → va_S (fun x => s.heap.size ≤ x) s.heap H1 locs1 → W p l e room_1 s m #[Value.ref b] below meth c H1 locs1 (nc + mc2) (ns + ms2) Qf (F0 m (pc + 3) ls st)) : W p l e room_1 s m #[Value.ref b] below meth c H locs nc ns Qf (F0 m pc ls (.ref q :: st)) := by
  obtain ⟨⟨c1, c2, c3, c4⟩, c5, c6⟩ := hce
  have ht := TTin_tbl hts
  have hA : ∀ x : Nat, s.heap.size ≤ x → s.heap.size ≤ x := fun _ h => h
  have hC : [tl.length].map (fun i => (tl ++ [((q, .inr (cj, f0)) : Nat × va_E)])[i]?) = ([((q, .inr (cj, f0)) : Nat × va_E)]).map some := by simp
  have hRr : (List.range tl.length).map (fun i => (tl ++ [((q, .inr (cj, f0)) : Nat × va_E)])[i]?) = tl.map some := by
    apply List.ext_getElem?
    intro i
    by_cases hi : i < tl.length
    · rw [List.getElem?_map, List.getElem?_range hi, List.getElem?_map]
      simp [List.getElem?_append_left hi, List.getElem?_eq_getElem hi]
    · rw [List.getElem?_eq_none (by simp; omega), List.getElem?_eq_none (by simp; omega)]
  have hnd : va_nd (List.range tl.length) = true := by
    have : ∀ (l : List Nat), l.Nodup → va_nd l = true := by
      intro l hl
      induction l with
      | nil => rfl
      | cons a t ih =>
        have h1 := List.nodup_cons.mp hl
        simp [va_nd, h1.1, ih h1.2]
    exact this _ List.nodup_range
  have hdis : ∀ i ∈ List.range tl.length, i ∉ [tl.length] := fun i hi => by
    have := List.mem_range.mp hi
    simp; omega
  have hFc := va_free hD' hS hA [tl.length] hC
  have hPc : va_P D gcl [(q, .inr (cj, f0))] H := fun i x hi => by
    have h1 : i < 1 := (List.getElem?_eq_some_iff.mp hi).1
    have h2 : i = 0 := by omega
    subst h2
    exact hP' tl.length x (by simpa using hi)
  have hbl : FrameBlind (nPre D cs Zn q cj f0 [] H.size) := fun a U g mk q => by
    obtain ⟨q0, q1, qP, qK, qZ⟩ := q
    exact ⟨q0, q1, qP, va_K.moved (u := U) (U := U.calling g mk a) (Vm.Alike.refl U.vm) qK, hz2.1 U _ rfl qZ⟩
  have hpre : PreS s H (nPre D cs Zn q cj f0 [] H.size) [.ref q] := ⟨hbl, fun U hU hW => ⟨rfl, by rw [hU], by rw [hU]; exact hPc, va_K.moved hW.alike hK, hz2.2 s U hW hZ⟩⟩
  have hrun : va_Run p l e room_1 s m #[Value.ref b] below meth c H locs nc ns mc2 ms2 (F0 m pc ls (.ref q :: st)) st (nPost D mk (va_A [(q, .inr (cj, f0))] H.size) (Value.ref q :: ([] : List Value)).toArray) (va_A [(q, .inr (cj, f0))] H.size) :=
    va_runI (As := []) (rest := st) ⟨hx, hb, hml, hown, ht⟩ (hm H.size) ⟨callB_of 0 ht (gTT c1) rfl rfl rfl (ht _ c2) (ht _ hw) c4 ⟨by show d2 + 1 ≤ 2048; omega, by show 8 + (mL + 11) + 60 * d2 ≤ 84000; omega⟩, c6, ht _ c5⟩ hpre rfl rfl hls rfl (by show 2 * 0 + _ ≤ 8; omega) hd hroom
  intro T hT X
  obtain ⟨v, st₀, t, T', Lc, e0, X', hL, e1, e2, ⟨⟨u, hv, hp, hdd⟩, hzz, hkk⟩, stp⟩ := hrun T hT X
  cases hv
  rw [e0] at hzz hkk
  have hp1 : va_P D gcl (mk u) T'.heap := by rw [e1]; exact hp
  have hk1 : ∀ x : Nat, x < H.size → ¬ va_A [((q, .inr (cj, f0)) : Nat × va_E)] H.size x → T'.heap[x]? = H[x]? := fun x h1 h2 => by rw [e1]; exact hkk x h1 h2
  obtain ⟨hPj, hDj⟩ := va_join hP' hD' [tl.length] (List.range tl.length) hC hRr hnd hdis hk1 hFc hp1 hdd
  obtain ⟨t2, a1, b1⟩ := k u T'.heap (locs ++ Lc) hPj hDj ⟨Nat.le_trans hS.1 (by rw [e1]; exact hzz), fun x h1 h2 => by rw [hk1 x (Nat.lt_of_lt_of_le h1 hS.1) (fun z => h2 (hFc x z))]; exact hS.2.1 x h1 h2, fun x hx9 => by
      rcases List.mem_append.mp hx9 with h | h
      · exact hS.2.2 x h
      · exact hFc _ (hL x h)⟩ T' rfl X'
  exact ⟨t2, stp t2 a1, b1⟩
set_option maxHeartbeats 4000000 in
/-- the law out of an invariant that the calls keep -/
theorem whole_of {p : Program} {e : Env} {s : State} {m : MethodId} {below : List Frame} {meth : Method} {c : Code} (l : Launch) {b L : Nat} {xs : Nat → Int32} (hL : L ≤ 3072) (C0 : lw_At p s m meth c b L xs) {N : Nat} {Inv : Nat → gFG → gFF → gFG → gFF → Int64 → Prop} (hI0 : Inv 0 g0C f00 g0M f00 0) (hskip : ∀ (n : Nat) (gS : gFG) (fS : gFF) (gT : gFG) (fT : gFF) (wT : Int64), Inv n gS fS gT fT wT → Inv (n + 1) gS fS gT fT wT) (h_size : ls_size N Inv) (h_draw : ls_draw N Inv) (h_cell : ls_cell N Inv) (h_repair : ls_repair N Inv) (h_wall : ls_wall N Inv) (h_many : ls_many N Inv) (h_off : ls_off N Inv) (h_lot : ls_lot N Inv) (h_mix : ls_mix N Inv) (h_mixed : ls_mixed N Inv) (h_pour : ls_pour N Inv) (h_left : ls_left N Inv) (h_feed : ls_feed N Inv) (h_end : ls_end N Inv) (h_rules : ls_rules N Inv) (h_fault : ls_fault N Inv) (h_broken : ls_broken N Inv) (h_vessel : ls_vessel N Inv) (h_like : ls_like N Inv) (h_tell : ls_tell N Inv) (h_of : ls_of N Inv) (h_by : ls_by N Inv) (h_count : ls_count N Inv) (h_status : ls_status N Inv) : W p l e room_1 s m #[Value.ref b] below meth c s.heap [] 0 0 (lw_Z below #[Value.ref b] s) (entryFrame m ([Value.ref b] : List Value).toArray 4) := by
  obtain ⟨hx, hb, hr, hml, hown, hts, hX, hbl, hlocks, hgv⟩ := id C0
  obtain ⟨D, cs, hK⟩ := lKc hts
  obtain ⟨tX, tY, sK, sV, hZc⟩ := lZc hts hgv
  have hA : ∀ q : Nat, s.heap.size ≤ q → (fun q : Nat => s.heap.size ≤ q) q := fun _ h => h
  have hS : va_S (fun q : Nat => s.heap.size ≤ q) s.heap s.heap [] := va_S.rf
  have hP : va_P D gcl [] s.heap := fun k q h => by simp at h
  have hD : va_D (fun q : Nat => s.heap.size ≤ q) [] := ⟨fun i j p q h => by simp at h, fun k q h => by simp at h⟩
  have hl := gok.of (lv := [some (.ref b), none, none, none]) (lv_entry ([.ref b]) (n := 4) (Nat.le_of_ble_eq_true rfl)) rfl
  have ht := TTin_tbl hts
  rw [lg_entry_eq]
  generalize (lg_sl ([.ref b]) ++ List.replicate (4 - (lg_sl ([.ref b])).length) Slot.unset).toArray = ls at hl ⊢
  refine va_new (ci := 11) (fs := [.null, .null, .null, .null, .null, .null, .null, .null, .null, .null, .null, .null, .int 0, .int 0]) (C := RX11) (T := TX11) (N := 14) hx hb ht inX11 tyX11 tyX11_ok hown (hts _ (List.mem_of_getElem? (i := 84) (by decide +kernel))) (hts _ (List.mem_of_getElem? (i := 85) (by decide +kernel))) (hts _ (List.mem_of_getElem? (i := 63) (by decide +kernel))) hK hP hD hS hA rfl (by decide +kernel) (by decide) (by decide) dL_law_0 (fun q0 H hP hD hS => ?_)
  refine lv_dup hx hb dL_law_3 rfl ?_
  refine wctor (tl := []) hx hb hml hown hts hK nZ_pm ⟨va_Nw.of rfl (hts _ (List.mem_of_getElem? (i := 94) (by decide +kernel))), va_Nw.of rfl (hts _ (List.mem_of_getElem? (i := 171) (by decide +kernel))), va_Nw.of rfl (hts _ (List.mem_of_getElem? (i := 206) (by decide +kernel))), va_Nw.of rfl (hts _ (List.mem_of_getElem? (i := 296) (by decide +kernel))), va_Nw.of rfl (hts _ (List.mem_of_getElem? (i := 327) (by decide +kernel))), (show (Cond.arrayOver (.array .int)).before #[Value.ref b] s = true from hts (.arrayOver (.array .int)) (List.mem_of_getElem? (i := 224) (by decide +kernel)))⟩ (kX11 (h0 := q0)) ⟨⟨TT_1 26 (by decide +kernel) rfl, TT_1 1 (by decide +kernel) rfl, by decide, by decide +kernel⟩, TT_1 25 (by decide +kernel) rfl, rfl⟩ (TT_1 24 (by decide +kernel) rfl) ⟨Nat.le_of_ble_eq_true rfl, by decide⟩ ⟨by decide, by decide⟩ hl.1 dL_law_4 hP hD hS (fun u1 H locs hP hD hS => ?_)
  refine lv_astore_n hx hb dL_law_7 rfl hl.has (by decide) rfl (fun ls h2 => ?_)
  have hl := gok.put1 (lv := [some (.ref b), none, none, none]) rfl h2
  refine va_new (ci := 12) (fs := [.int 0, .int 0, .int 0, .int 0, .null, .null, .int 0, .null, .null, .null, .null, .null, .null, .int 0, .int 0, .int 0, .null, .null, .null, .null, .null, .int 0, .null, .null, .int 0, .null, .null, .null, .null, .int 0, .null, .int 0, .int 0, .int 0, .int 0, .long 0, .int 0, .int 0, .int 0, .null, .int 0, .null, .null, .null]) (C := RX12) (T := TX12) (N := 44) hx hb ht inX12 tyX12 tyX12_ok hown (hts _ (List.mem_of_getElem? (i := 1065) (by decide +kernel))) (hts _ (List.mem_of_getElem? (i := 1066) (by decide +kernel))) (hts _ (List.mem_of_getElem? (i := 75) (by decide +kernel))) hK hP hD hS hA rfl (by decide +kernel) (by decide) (by decide) dL_law_8 (fun q2 H hP hD hS => ?_)
  refine lv_dup hx hb dL_law_11 rfl ?_
  refine wctor (tl := mkX11 cs q0 u1) hx hb hml hown hts hK nZ_true trivial (kX12 (h0 := q2)) ⟨⟨TT_5 47 (by decide +kernel) rfl, TT_1 13 (by decide +kernel) rfl, by decide, by decide +kernel⟩, TT_5 46 (by decide +kernel) rfl, rfl⟩ (TT_5 45 (by decide +kernel) rfl) ⟨Nat.le_of_ble_eq_true rfl, by decide⟩ ⟨by decide, by decide⟩ hl.1 dL_law_12 hP hD hS (fun u2 H locs hP hD hS => ?_)
  refine lv_astore_n hx hb dL_law_15 rfl hl.has (by decide) rfl (fun ls h2 => ?_)
  have hl := gok.put1 (lv := [some (.ref b), some (.ref q0), none, none]) rfl h2
  obtain ⟨i1, i2, i3, i4, i5⟩ := lads hD
  have hsim : lSim l D cs (adC0 q0 u1) (adM0 q2 u2) tX tY sK sV b L xs (lGo p l e s m b below meth c D cs (adC0 q0 u1) (adM0 q2 u2)) := ⟨p, e, s, m, below, meth, c, C0, ⟨hK, hZc _ i3, i1, i2, i3, i4, i5⟩, rfl⟩
  have hgo : lGo p l e s m b below meth c D cs (adC0 q0 u1) (adM0 q2 u2) 16 [some (.ref b), some (.ref (adC0 q0 u1 0)), some (.ref (adM0 q2 u2 0)), none] [] (g0C, f00, 0) (g0M, f00, 0) := by
    refine l_iconst (n := 17) hsim dL_law_16 ki_0 rfl ?_
    refine l_istore_n (n := 18) (lv2 := [some (.ref b), some (.ref (adC0 q0 u1 0)), some (.ref (adM0 q2 u2 0)), some (.int 0)]) hsim dL_law_17 rfl rfl rfl ?_
    exact law_loop hsim i1 ⟨i2, lZ_true⟩ hL hskip h_size h_draw h_cell h_repair h_wall h_many h_off h_lot h_mix h_mixed h_pour h_left h_feed h_end h_rules h_fault h_broken h_vessel h_like h_tell h_of h_by h_count h_status 513 0 g0C f00 g0M f00 0 (by decide) (by decide) hI0
  refine W.widen (k := 82) (n := 5055) (by decide) (by decide) ?_
  exact hgo H locs ls (toC hP) (toM lenC hP) hS hl
