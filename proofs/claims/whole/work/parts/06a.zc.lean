def gsl : List Nat := [3, 4, 6, 4, 3, 3, 5, 6, 7, 4, 0, 2, 5, 1]
def gsb : List (List Int32) := [[116, 105, 110], [108, 101, 97, 100], [99, 111, 112, 112, 101, 114], [119, 97, 108, 108], [97, 105, 114], [100, 114, 121], [115, 116, 117, 99, 107], [112, 105, 101, 99, 101, 115], [115, 112, 97, 99, 101, 114, 115], [102, 114, 111, 109], [], [116, 111], [101, 118, 101, 114, 121], [59]]
def gsx : List (Nat × String) := [(74, "tin"), (76, "lead"), (78, "copper"), (80, "wall"), (82, "air"), (84, "dry"), (86, "stuck"), (88, "pieces"), (90, "spacers"), (96, "from"), (98, ""), (100, "to"), (102, "every"), (38, ";")]
/-- what the component's world has beside it: the two arrays of ways, the words, the private members of nest mates -/
def gZc (ad : Nat → Nat) (tX tY : Nat) (sK sV : Nat → Nat) : State → Prop := fun U =>
  (va_Z "PieceMoulds" "WAY_X" "[I" (.ref tX) (gA layC ad) U U.heap ∧ va_T .int tX 4 (fun j => .int (gwx j)) (gA layC ad) U U.heap) ∧
  (va_Z "PieceMoulds" "WAY_Y" "[I" (.ref tY) (gA layC ad) U U.heap ∧ va_T .int tY 4 (fun j => .int (gwy j)) (gA layC ad) U U.heap) ∧
  (va_Nw (.fieldLinkNest "PieceMoulds$Casting" 64 "PieceMoulds" "WAY_X" "[I" "PieceMoulds") U ∧ va_Nw (.fieldLinkNest "PieceMoulds$Casting" 67 "PieceMoulds" "WAY_Y" "[I" "PieceMoulds") U ∧ va_Nw (.fieldLinkNest "PieceMoulds$Stripping" 72 "PieceMoulds" "WAY_X" "[I" "PieceMoulds") U ∧ va_Nw (.fieldLinkNest "PieceMoulds$Stripping" 75 "PieceMoulds" "WAY_Y" "[I" "PieceMoulds") U ∧ va_Nw (.methodLinkNest "PieceMoulds$Stripping" 90 ⟨"PieceMoulds", "isClay", "(I)Z"⟩ "PieceMoulds") U) ∧
  (vk_S 14 gsl gsb sK sV (gA layC ad) U U.heap ∧ (∀ (i : Nat) (q : Nat × String), gsx[i]? = some q → vk_R "PieceMoulds$RuleReader" q.1 q.2 (sK i) U) ∧ va_Z "java/lang/String" "COMPACT_STRINGS" "Z" (.int 1) (gA layC ad) U U.heap ∧ va_Zq "jdk/internal/util/Preconditions" "SIOOBE_FORMATTER" "Ljava/util/function/BiFunction;" (gA layC ad) U U.heap)
theorem gZc_ok (ad : Nat → Nat) (tX tY : Nat) (sK sV : Nat → Nat) : gZok (gA layC ad) (gZc ad tX tY sK sV) := by
  refine ⟨fun U U' hv hh h => ?_, fun U U' hW hh h => ?_⟩
  · obtain ⟨⟨a1, a2⟩, ⟨b1, b2⟩, ⟨c1, c2, c3, c4, c5⟩, d1, d2, d3, d4⟩ := h
    have hal : U.vm.Alike U'.vm := by rw [hv]; exact Vm.Alike.refl _
    refine ⟨⟨by rw [← hh]; exact a1.moved hal, by rw [← hh]; exact a2.moved hal⟩, ⟨by rw [← hh]; exact b1.moved hal, by rw [← hh]; exact b2.moved hal⟩, ⟨c1.same rfl hv, c2.same rfl hv, c3.same rfl hv, c4.same rfl hv, c5.same rfl hv⟩, by rw [← hh]; exact d1.moved hal, fun i q hq => (d2 i q hq).same hv.symm, by rw [← hh]; exact d3.moved hal, by rw [← hh]; exact d4.moved hal⟩
  · obtain ⟨⟨a1, a2⟩, ⟨b1, b2⟩, ⟨c1, c2, c3, c4, c5⟩, d1, d2, d3, d4⟩ := h
    have hal := hW.alike
    exact ⟨⟨(a1.kept hh).moved hal, (a2.kept hh).moved hal⟩, ⟨(b1.kept hh).moved hal, (b2.kept hh).moved hal⟩, ⟨c1.warmF hW, c2.warmF hW, c3.warmF hW, c4.warmF hW, c5.warmM hW⟩, (d1.kept hh).moved hal, fun i q hq => (d2 i q hq).warm hW, (d3.kept hh).moved hal, (d4.kept hh).moved hal⟩
