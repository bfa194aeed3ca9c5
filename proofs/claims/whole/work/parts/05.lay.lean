theorem TT_0 {w : Cond} (i : Nat) (h : (k2_sels lw_privs)[i]? = some w) (hg : goodWord w = true) : w ∈ TT := List.mem_filter.mpr ⟨List.mem_append_left _ (List.mem_of_getElem? h), hg⟩
theorem TT_1 {w : Cond} (i : Nat) (h : tables_1_1[i]? = some w) (hg : goodWord w = true) : w ∈ TT := List.mem_filter.mpr ⟨List.mem_append_right _ (List.mem_append_left _ (List.mem_of_getElem? h)), hg⟩
theorem TT_2 {w : Cond} (i : Nat) (h : tables_1_2[i]? = some w) (hg : goodWord w = true) : w ∈ TT := List.mem_filter.mpr ⟨List.mem_append_right _ (List.mem_append_right _ (List.mem_append_left _ (List.mem_of_getElem? h))), hg⟩
theorem TT_3 {w : Cond} (i : Nat) (h : tables_1_3[i]? = some w) (hg : goodWord w = true) : w ∈ TT := List.mem_filter.mpr ⟨List.mem_append_right _ (List.mem_append_right _ (List.mem_append_right _ (List.mem_append_left _ (List.mem_of_getElem? h)))), hg⟩
theorem TT_4 {w : Cond} (i : Nat) (h : tables_1_4[i]? = some w) (hg : goodWord w = true) : w ∈ TT := List.mem_filter.mpr ⟨List.mem_append_right _ (List.mem_append_right _ (List.mem_append_right _ (List.mem_append_right _ (List.mem_append_left _ (List.mem_of_getElem? h))))), hg⟩
theorem TT_5 {w : Cond} (i : Nat) (h : tables_1_5[i]? = some w) (hg : goodWord w = true) : w ∈ TT := List.mem_filter.mpr ⟨List.mem_append_right _ (List.mem_append_right _ (List.mem_append_right _ (List.mem_append_right _ (List.mem_append_right _ (List.mem_append_left _ (List.mem_of_getElem? h)))))), hg⟩
theorem TT_6 {w : Cond} (i : Nat) (h : tables_1_6[i]? = some w) (hg : goodWord w = true) : w ∈ TT := List.mem_filter.mpr ⟨List.mem_append_right _ (List.mem_append_right _ (List.mem_append_right _ (List.mem_append_right _ (List.mem_append_right _ (List.mem_append_right _ (List.mem_of_getElem? h)))))), hg⟩
def kdC : Nat → Nat := fun k => match k with
  | 0 => 0
  | 1 => 0
  | 2 => 0
  | 3 => 0
  | 4 => 0
  | 5 => 0
  | 6 => 0
  | 7 => 0
  | 8 => 0
  | 9 => 0
  | 10 => 0
  | 11 => 0
  | 12 => 0
  | 13 => 1
  | 14 => 1
  | 15 => 2
  | 16 => 1
  | 17 => 1
  | 18 => 1
  | 19 => 1
  | 20 => 1
  | 21 => 1
  | 22 => 1
  | 23 => 1
  | 24 => 3
  | 25 => 3
  | 26 => 3
  | 27 => 1
  | 28 => 1
  | 29 => 1
  | 30 => 1
  | 31 => 1
  | 32 => 1
  | 33 => 1
  | 34 => 1
  | 35 => 1
  | 36 => 1
  | 37 => 1
  | 38 => 1
  | 39 => 1
  | 40 => 1
  | 41 => 1
  | 42 => 1
  | 43 => 1
  | 44 => 1
  | 45 => 1
  | 46 => 1
  | 47 => 1
  | 48 => 1
  | 49 => 1
  | 50 => 1
  | 51 => 1
  | 52 => 1
  | 53 => 1
  | 54 => 1
  | 55 => 1
  | 56 => 1
  | _ => 9
def lnC : Nat → Nat := fun k => match k with
  | 13 => 144
  | 14 => 144
  | 15 => 144
  | 16 => 144
  | 17 => 32
  | 18 => 8
  | 19 => 8
  | 20 => 6
  | 21 => 6
  | 22 => 6
  | 23 => 6
  | 24 => 4
  | 25 => 4
  | 26 => 4
  | 27 => 4
  | 28 => 7
  | 29 => 6
  | 30 => 6
  | 31 => 6
  | 32 => 6
  | 33 => 6
  | 34 => 6
  | 35 => 287
  | 36 => 287
  | 37 => 287
  | 38 => 287
  | 39 => 7
  | 40 => 7
  | 41 => 7
  | 42 => 7
  | 43 => 6
  | 44 => 300
  | 45 => 20
  | 46 => 20
  | 47 => 20
  | 48 => 20
  | 49 => 20
  | 50 => 20
  | 51 => 320
  | 52 => 150
  | 53 => 150
  | 54 => 150
  | 55 => 8
  | 56 => 8
  | _ => 0
def obC : Nat → Nat × List (Nat × Nat) := fun k => match k with
  | 0 => (11, [(1, 1), (1, 2), (1, 3), (1, 4), (1, 5), (1, 6), (1, 7), (1, 8), (1, 9), (1, 10), (2, 2), (2, 3), (0, 0), (0, 1)])
  | 1 => (2, [(1, 13), (0, 4), (0, 5), (0, 6)])
  | 2 => (1, [(1, 1), (1, 14), (1, 15), (1, 16), (0, 7), (0, 8), (0, 9)])
  | 3 => (8, [(1, 1), (1, 17), (1, 18), (1, 19), (0, 10), (0, 11), (0, 12)])
  | 4 => (4, [(1, 20), (1, 21), (1, 22), (1, 23), (0, 13)])
  | 5 => (5, [(1, 4), (1, 24), (1, 25), (1, 26), (1, 27), (1, 28), (1, 29), (1, 30), (0, 14), (0, 15), (0, 16), (0, 17)])
  | 6 => (0, [(1, 4), (1, 43)])
  | 7 => (9, [(1, 44), (0, 18)])
  | 8 => (7, [(1, 7), (0, 19), (0, 20)])
  | 9 => (3, [(1, 2), (1, 3), (1, 6)])
  | 10 => (10, [(1, 51), (1, 52), (1, 53), (1, 54), (1, 55), (1, 56), (0, 21), (0, 22)])
  | 11 => (6, [(1, 45), (1, 46), (1, 47), (0, 23)])
  | 12 => (6, [(1, 48), (1, 49), (1, 50), (0, 24)])
  | _ => (0, [])
def rwC : Nat → Nat := fun k => match k with
  | 24 => 31
  | 25 => 35
  | 26 => 39
  | _ => 0
abbrev layC : gL := (57, kdC, lnC, obC, rwC)
theorem gaC_13 {i : Int32} (h : vp_in i 144) : gia layC 13 i := ⟨by decide, rfl, h⟩
theorem gaC_14 {i : Int32} (h : vp_in i 144) : gia layC 14 i := ⟨by decide, rfl, h⟩
theorem gaC_15 {i : Int32} (h : vp_in i 144) : giz layC 15 i := ⟨by decide, rfl, h⟩
theorem gaC_16 {i : Int32} (h : vp_in i 144) : gia layC 16 i := ⟨by decide, rfl, h⟩
theorem gaC_17 {i : Int32} (h : vp_in i 32) : gia layC 17 i := ⟨by decide, rfl, h⟩
theorem gaC_18 {i : Int32} (h : vp_in i 8) : gia layC 18 i := ⟨by decide, rfl, h⟩
theorem gaC_19 {i : Int32} (h : vp_in i 8) : gia layC 19 i := ⟨by decide, rfl, h⟩
theorem gaC_20 {i : Int32} (h : vp_in i 6) : gia layC 20 i := ⟨by decide, rfl, h⟩
theorem gaC_21 {i : Int32} (h : vp_in i 6) : gia layC 21 i := ⟨by decide, rfl, h⟩
theorem gaC_22 {i : Int32} (h : vp_in i 6) : gia layC 22 i := ⟨by decide, rfl, h⟩
theorem gaC_23 {i : Int32} (h : vp_in i 6) : gia layC 23 i := ⟨by decide, rfl, h⟩
theorem gaC_27 {i : Int32} (h : vp_in i 4) : gia layC 27 i := ⟨by decide, rfl, h⟩
theorem gaC_28 {i : Int32} (h : vp_in i 7) : gia layC 28 i := ⟨by decide, rfl, h⟩
theorem gaC_29 {i : Int32} (h : vp_in i 6) : gia layC 29 i := ⟨by decide, rfl, h⟩
theorem gaC_30 {i : Int32} (h : vp_in i 6) : gia layC 30 i := ⟨by decide, rfl, h⟩
theorem gaC_31 {i : Int32} (h : vp_in i 6) : gia layC 31 i := ⟨by decide, rfl, h⟩
theorem gaC_32 {i : Int32} (h : vp_in i 6) : gia layC 32 i := ⟨by decide, rfl, h⟩
theorem gaC_33 {i : Int32} (h : vp_in i 6) : gia layC 33 i := ⟨by decide, rfl, h⟩
theorem gaC_34 {i : Int32} (h : vp_in i 6) : gia layC 34 i := ⟨by decide, rfl, h⟩
theorem gaC_35 {i : Int32} (h : vp_in i 287) : gia layC 35 i := ⟨by decide, rfl, h⟩
theorem gaC_36 {i : Int32} (h : vp_in i 287) : gia layC 36 i := ⟨by decide, rfl, h⟩
theorem gaC_37 {i : Int32} (h : vp_in i 287) : gia layC 37 i := ⟨by decide, rfl, h⟩
theorem gaC_38 {i : Int32} (h : vp_in i 287) : gia layC 38 i := ⟨by decide, rfl, h⟩
theorem gaC_39 {i : Int32} (h : vp_in i 7) : gia layC 39 i := ⟨by decide, rfl, h⟩
theorem gaC_40 {i : Int32} (h : vp_in i 7) : gia layC 40 i := ⟨by decide, rfl, h⟩
theorem gaC_41 {i : Int32} (h : vp_in i 7) : gia layC 41 i := ⟨by decide, rfl, h⟩
theorem gaC_42 {i : Int32} (h : vp_in i 7) : gia layC 42 i := ⟨by decide, rfl, h⟩
theorem gaC_43 {i : Int32} (h : vp_in i 6) : gia layC 43 i := ⟨by decide, rfl, h⟩
theorem gaC_44 {i : Int32} (h : vp_in i 300) : gia layC 44 i := ⟨by decide, rfl, h⟩
theorem gaC_45 {i : Int32} (h : vp_in i 20) : gia layC 45 i := ⟨by decide, rfl, h⟩
theorem gaC_46 {i : Int32} (h : vp_in i 20) : gia layC 46 i := ⟨by decide, rfl, h⟩
theorem gaC_47 {i : Int32} (h : vp_in i 20) : gia layC 47 i := ⟨by decide, rfl, h⟩
theorem gaC_48 {i : Int32} (h : vp_in i 20) : gia layC 48 i := ⟨by decide, rfl, h⟩
theorem gaC_49 {i : Int32} (h : vp_in i 20) : gia layC 49 i := ⟨by decide, rfl, h⟩
theorem gaC_50 {i : Int32} (h : vp_in i 20) : gia layC 50 i := ⟨by decide, rfl, h⟩
theorem gaC_51 {i : Int32} (h : vp_in i 320) : gia layC 51 i := ⟨by decide, rfl, h⟩
theorem gaC_52 {i : Int32} (h : vp_in i 150) : gia layC 52 i := ⟨by decide, rfl, h⟩
theorem gaC_53 {i : Int32} (h : vp_in i 150) : gia layC 53 i := ⟨by decide, rfl, h⟩
theorem gaC_54 {i : Int32} (h : vp_in i 150) : gia layC 54 i := ⟨by decide, rfl, h⟩
theorem gaC_55 {i : Int32} (h : vp_in i 8) : gia layC 55 i := ⟨by decide, rfl, h⟩
theorem gaC_56 {i : Int32} (h : vp_in i 8) : gia layC 56 i := ⟨by decide, rfl, h⟩
def kdM : Nat → Nat := fun k => match k with
  | 0 => 0
  | 1 => 1
  | 2 => 2
  | 3 => 1
  | 4 => 1
  | 5 => 2
  | 6 => 2
  | 7 => 1
  | 8 => 1
  | 9 => 1
  | 10 => 1
  | 11 => 1
  | 12 => 1
  | 13 => 1
  | 14 => 1
  | 15 => 1
  | 16 => 1
  | 17 => 1
  | 18 => 1
  | 19 => 1
  | 20 => 1
  | 21 => 1
  | 22 => 1
  | 23 => 1
  | 24 => 1
  | _ => 9
def lnM : Nat → Nat := fun k => match k with
  | 1 => 144
  | 2 => 144
  | 3 => 144
  | 4 => 144
  | 5 => 8
  | 6 => 8
  | 7 => 8
  | 8 => 8
  | 9 => 6
  | 10 => 6
  | 11 => 6
  | 12 => 6
  | 13 => 6
  | 14 => 7
  | 15 => 6
  | 16 => 20
  | 17 => 20
  | 18 => 20
  | 19 => 60
  | 20 => 300
  | 21 => 320
  | 22 => 150
  | 23 => 150
  | 24 => 150
  | _ => 0
def obM : Nat → Nat × List (Nat × Nat) := fun k => match k with
  | 0 => (12, [(0, 0), (0, 1), (0, 2), (0, 3), (1, 1), (1, 2), (0, 6), (1, 3), (1, 4), (1, 5), (1, 6), (1, 7), (1, 8), (0, 13), (0, 14), (0, 15), (1, 9), (1, 10), (1, 11), (1, 12), (1, 13), (0, 21), (1, 14), (1, 15), (0, 24), (1, 16), (1, 17), (1, 18), (1, 19), (0, 29), (1, 20), (0, 31), (0, 32), (0, 33), (0, 34), (3, 0), (0, 36), (0, 37), (0, 38), (1, 21), (0, 40), (1, 22), (1, 23), (1, 24)])
  | _ => (0, [])
def rwM : Nat → Nat := fun k => match k with
  | _ => 0
abbrev layM : gL := (25, kdM, lnM, obM, rwM)
theorem gaM_1 {i : Int32} (h : vp_in i 144) : gia layM 1 i := ⟨by decide, rfl, h⟩
theorem gaM_2 {i : Int32} (h : vp_in i 144) : giz layM 2 i := ⟨by decide, rfl, h⟩
theorem gaM_3 {i : Int32} (h : vp_in i 144) : gia layM 3 i := ⟨by decide, rfl, h⟩
theorem gaM_4 {i : Int32} (h : vp_in i 144) : gia layM 4 i := ⟨by decide, rfl, h⟩
theorem gaM_5 {i : Int32} (h : vp_in i 8) : giz layM 5 i := ⟨by decide, rfl, h⟩
theorem gaM_6 {i : Int32} (h : vp_in i 8) : giz layM 6 i := ⟨by decide, rfl, h⟩
theorem gaM_7 {i : Int32} (h : vp_in i 8) : gia layM 7 i := ⟨by decide, rfl, h⟩
theorem gaM_8 {i : Int32} (h : vp_in i 8) : gia layM 8 i := ⟨by decide, rfl, h⟩
theorem gaM_9 {i : Int32} (h : vp_in i 6) : gia layM 9 i := ⟨by decide, rfl, h⟩
theorem gaM_10 {i : Int32} (h : vp_in i 6) : gia layM 10 i := ⟨by decide, rfl, h⟩
theorem gaM_11 {i : Int32} (h : vp_in i 6) : gia layM 11 i := ⟨by decide, rfl, h⟩
theorem gaM_12 {i : Int32} (h : vp_in i 6) : gia layM 12 i := ⟨by decide, rfl, h⟩
theorem gaM_13 {i : Int32} (h : vp_in i 6) : gia layM 13 i := ⟨by decide, rfl, h⟩
theorem gaM_14 {i : Int32} (h : vp_in i 7) : gia layM 14 i := ⟨by decide, rfl, h⟩
theorem gaM_15 {i : Int32} (h : vp_in i 6) : gia layM 15 i := ⟨by decide, rfl, h⟩
theorem gaM_16 {i : Int32} (h : vp_in i 20) : gia layM 16 i := ⟨by decide, rfl, h⟩
theorem gaM_17 {i : Int32} (h : vp_in i 20) : gia layM 17 i := ⟨by decide, rfl, h⟩
theorem gaM_18 {i : Int32} (h : vp_in i 20) : gia layM 18 i := ⟨by decide, rfl, h⟩
theorem gaM_19 {i : Int32} (h : vp_in i 60) : gia layM 19 i := ⟨by decide, rfl, h⟩
theorem gaM_20 {i : Int32} (h : vp_in i 300) : gia layM 20 i := ⟨by decide, rfl, h⟩
theorem gaM_21 {i : Int32} (h : vp_in i 320) : gia layM 21 i := ⟨by decide, rfl, h⟩
theorem gaM_22 {i : Int32} (h : vp_in i 150) : gia layM 22 i := ⟨by decide, rfl, h⟩
theorem gaM_23 {i : Int32} (h : vp_in i 150) : gia layM 23 i := ⟨by decide, rfl, h⟩
theorem gaM_24 {i : Int32} (h : vp_in i 150) : gia layM 24 i := ⟨by decide, rfl, h⟩
def gbq (k : Nat) (b : Int32) : Nat := if b = 0 then k else k + 3
def gbl (b : Int32) : Nat := if b = 0 then 23 else 24
theorem gbq_a {i b : Int32} (k : Nat) (hk : k = 45 ∨ k = 46 ∨ k = 47) (h : vp_in i 20) : gia layC (gbq k b) i := by
  rcases hk with rfl | rfl | rfl <;> unfold gbq <;> split <;> exact ⟨by decide, rfl, h⟩
def gwx : Nat → Int32 := fun k => match k with
  | 0 => 1
  | 1 => 0
  | 2 => -1
  | _ => 0
def gwy : Nat → Int32 := fun k => match k with
  | 0 => 0
  | 1 => 1
  | 2 => 0
  | _ => -1
abbrev gFG : Type := Nat → Int32
abbrev gFF : Type := Nat → Nat → Int32
def gQi (Q : Int32 → gFG → gFF → Prop) : Option Value → gSt → Prop := fun v S => ∃ (r : Int32) (g : gFG) (f : gFF), v = some (.int r) ∧ S = (g, f, 0) ∧ Q r g f
def gQv (Q : gFG → gFF → Prop) : Option Value → gSt → Prop := fun v S => ∃ (g : gFG) (f : gFF), v = none ∧ S = (g, f, 0) ∧ Q g f
def gQs (sK : Nat → Nat) (Q : Nat → gFG → gFF → Prop) : Option Value → gSt → Prop := fun v S => ∃ (r : Nat) (g : gFG) (f : gFF), v = some (.ref (sK r)) ∧ S = (g, f, 0) ∧ Q r g f
def gMi (Q : Int32 → gFG → gFF → Int64 → Prop) : Option Value → gSt → Prop := fun v S => ∃ (r : Int32) (g : gFG) (f : gFF) (w : Int64), v = some (.int r) ∧ S = (g, f, w) ∧ Q r g f w
def gMv (Q : gFG → gFF → Int64 → Prop) : Option Value → gSt → Prop := fun v S => ∃ (g : gFG) (f : gFF) (w : Int64), v = none ∧ S = (g, f, w) ∧ Q g f w
/-- a number that a boolean may be -/
def gz (x : Int32) : Prop := x = 0 ∨ x = 1
theorem gz_n {x : Int32} (h : gz x) : narrow .boolean (.int x) = .int x := by rcases h with rfl | rfl <;> decide
theorem gz_v {x : Int32} (h : gz x) : vp_nar .boolean x = x := by rcases h with rfl | rfl <;> decide
theorem gz_0 : gz 0 := Or.inl rfl
theorem gz_1 : gz 1 := Or.inr rfl
theorem gtO {x : Int32} (lo hi : Int) (h : ∀ v : Int32, lo ≤ v.toInt → v.toInt ≤ hi → ¬ x = v) : x.toInt < lo ∨ hi < x.toInt := by
  by_cases h1 : x.toInt < lo
  · exact Or.inl h1
  · by_cases h2 : hi < x.toInt
    · exact Or.inr h2
    · exact absurd rfl (h x (by omega) (by omega))
theorem lfX2_9 : Cond.fieldLink RX2 9 (TX2 0).1 (TX2 0).2.1 (TX2 0).2.2.1 ∈ TT := TT_1 36 (by decide +kernel) rfl
theorem lfX2_15 : Cond.fieldLink RX2 15 (TX2 1).1 (TX2 1).2.1 (TX2 1).2.2.1 ∈ TT := TT_1 37 (by decide +kernel) rfl
theorem lfX2_19 : Cond.fieldLink RX2 19 (TX2 2).1 (TX2 2).2.1 (TX2 2).2.2.1 ∈ TT := TT_1 38 (by decide +kernel) rfl
theorem lfX2_22 : Cond.fieldLink RX2 22 (TX2 3).1 (TX2 3).2.1 (TX2 3).2.2.1 ∈ TT := TT_1 39 (by decide +kernel) rfl
theorem lfX1_32 : Cond.fieldLink RX1 32 (TX1 0).1 (TX1 0).2.1 (TX1 0).2.2.1 ∈ TT := TT_1 56 (by decide +kernel) rfl
theorem lfX1_9 : Cond.fieldLink RX1 9 (TX1 1).1 (TX1 1).2.1 (TX1 1).2.2.1 ∈ TT := TT_1 57 (by decide +kernel) rfl
theorem lfX1_15 : Cond.fieldLink RX1 15 (TX1 2).1 (TX1 2).2.1 (TX1 2).2.2.1 ∈ TT := TT_1 58 (by decide +kernel) rfl
theorem lfX1_19 : Cond.fieldLink RX1 19 (TX1 3).1 (TX1 3).2.1 (TX1 3).2.2.1 ∈ TT := TT_1 59 (by decide +kernel) rfl
theorem lfX1_22 : Cond.fieldLink RX1 22 (TX1 4).1 (TX1 4).2.1 (TX1 4).2.2.1 ∈ TT := TT_1 60 (by decide +kernel) rfl
theorem lfX1_26 : Cond.fieldLink RX1 26 (TX1 5).1 (TX1 5).2.1 (TX1 5).2.2.1 ∈ TT := TT_1 61 (by decide +kernel) rfl
theorem lfX1_29 : Cond.fieldLink RX1 29 (TX1 6).1 (TX1 6).2.1 (TX1 6).2.2.1 ∈ TT := TT_1 62 (by decide +kernel) rfl
theorem lfX8_31 : Cond.fieldLink RX8 31 (TX8 0).1 (TX8 0).2.1 (TX8 0).2.2.1 ∈ TT := TT_1 85 (by decide +kernel) rfl
theorem lfX8_9 : Cond.fieldLink RX8 9 (TX8 1).1 (TX8 1).2.1 (TX8 1).2.2.1 ∈ TT := TT_1 86 (by decide +kernel) rfl
theorem lfX8_15 : Cond.fieldLink RX8 15 (TX8 2).1 (TX8 2).2.1 (TX8 2).2.2.1 ∈ TT := TT_1 87 (by decide +kernel) rfl
theorem lfX8_18 : Cond.fieldLink RX8 18 (TX8 3).1 (TX8 3).2.1 (TX8 3).2.2.1 ∈ TT := TT_1 88 (by decide +kernel) rfl
theorem lfX8_21 : Cond.fieldLink RX8 21 (TX8 4).1 (TX8 4).2.1 (TX8 4).2.2.1 ∈ TT := TT_1 89 (by decide +kernel) rfl
theorem lfX8_25 : Cond.fieldLink RX8 25 (TX8 5).1 (TX8 5).2.1 (TX8 5).2.2.1 ∈ TT := TT_1 90 (by decide +kernel) rfl
theorem lfX8_28 : Cond.fieldLink RX8 28 (TX8 6).1 (TX8 6).2.1 (TX8 6).2.2.1 ∈ TT := TT_1 91 (by decide +kernel) rfl
theorem lfX4_9 : Cond.fieldLink RX4 9 (TX4 0).1 (TX4 0).2.1 (TX4 0).2.2.1 ∈ TT := TT_1 113 (by decide +kernel) rfl
theorem lfX4_15 : Cond.fieldLink RX4 15 (TX4 1).1 (TX4 1).2.1 (TX4 1).2.2.1 ∈ TT := TT_1 114 (by decide +kernel) rfl
theorem lfX4_18 : Cond.fieldLink RX4 18 (TX4 2).1 (TX4 2).2.1 (TX4 2).2.2.1 ∈ TT := TT_1 115 (by decide +kernel) rfl
theorem lfX4_21 : Cond.fieldLink RX4 21 (TX4 3).1 (TX4 3).2.1 (TX4 3).2.2.1 ∈ TT := TT_1 116 (by decide +kernel) rfl
theorem lfX4_24 : Cond.fieldLink RX4 24 (TX4 4).1 (TX4 4).2.1 (TX4 4).2.2.1 ∈ TT := TT_1 117 (by decide +kernel) rfl
theorem lfX0_15 : Cond.fieldLink RX0 15 (TX0 0).1 (TX0 0).2.1 (TX0 0).2.2.1 ∈ TT := TT_1 135 (by decide +kernel) rfl
theorem lfX0_9 : Cond.fieldLink RX0 9 (TX0 1).1 (TX0 1).2.1 (TX0 1).2.2.1 ∈ TT := TT_1 136 (by decide +kernel) rfl
theorem lfX9_9 : Cond.fieldLink RX9 9 (TX9 0).1 (TX9 0).2.1 (TX9 0).2.2.1 ∈ TT := TT_1 148 (by decide +kernel) rfl
theorem lfX9_15 : Cond.fieldLink RX9 15 (TX9 1).1 (TX9 1).2.1 (TX9 1).2.2.1 ∈ TT := TT_1 149 (by decide +kernel) rfl
theorem lfX5_49 : Cond.fieldLink RX5 49 (TX5 0).1 (TX5 0).2.1 (TX5 0).2.2.1 ∈ TT := TT_1 163 (by decide +kernel) rfl
theorem lfX5_13 : Cond.fieldLink RX5 13 (TX5 1).1 (TX5 1).2.1 (TX5 1).2.2.1 ∈ TT := TT_1 164 (by decide +kernel) rfl
theorem lfX5_16 : Cond.fieldLink RX5 16 (TX5 2).1 (TX5 2).2.1 (TX5 2).2.2.1 ∈ TT := TT_1 165 (by decide +kernel) rfl
theorem lfX5_19 : Cond.fieldLink RX5 19 (TX5 3).1 (TX5 3).2.1 (TX5 3).2.2.1 ∈ TT := TT_1 166 (by decide +kernel) rfl
theorem lfX5_22 : Cond.fieldLink RX5 22 (TX5 4).1 (TX5 4).2.1 (TX5 4).2.2.1 ∈ TT := TT_1 167 (by decide +kernel) rfl
theorem lfX5_26 : Cond.fieldLink RX5 26 (TX5 5).1 (TX5 5).2.1 (TX5 5).2.2.1 ∈ TT := TT_1 168 (by decide +kernel) rfl
theorem lfX5_29 : Cond.fieldLink RX5 29 (TX5 6).1 (TX5 6).2.1 (TX5 6).2.2.1 ∈ TT := TT_1 169 (by decide +kernel) rfl
theorem lfX5_32 : Cond.fieldLink RX5 32 (TX5 7).1 (TX5 7).2.1 (TX5 7).2.2.1 ∈ TT := TT_1 170 (by decide +kernel) rfl
theorem lfX5_35 : Cond.fieldLink RX5 35 (TX5 8).1 (TX5 8).2.1 (TX5 8).2.2.1 ∈ TT := TT_1 171 (by decide +kernel) rfl
theorem lfX5_39 : Cond.fieldLink RX5 39 (TX5 9).1 (TX5 9).2.1 (TX5 9).2.2.1 ∈ TT := TT_1 172 (by decide +kernel) rfl
theorem lfX5_42 : Cond.fieldLink RX5 42 (TX5 10).1 (TX5 10).2.1 (TX5 10).2.2.1 ∈ TT := TT_1 173 (by decide +kernel) rfl
theorem lfX5_45 : Cond.fieldLink RX5 45 (TX5 11).1 (TX5 11).2.1 (TX5 11).2.2.1 ∈ TT := TT_1 174 (by decide +kernel) rfl
theorem lfX7_18 : Cond.fieldLink RX7 18 (TX7 0).1 (TX7 0).2.1 (TX7 0).2.2.1 ∈ TT := TT_1 206 (by decide +kernel) rfl
theorem lfX7_9 : Cond.fieldLink RX7 9 (TX7 1).1 (TX7 1).2.1 (TX7 1).2.2.1 ∈ TT := TT_1 207 (by decide +kernel) rfl
theorem lfX7_15 : Cond.fieldLink RX7 15 (TX7 2).1 (TX7 2).2.1 (TX7 2).2.2.1 ∈ TT := TT_1 208 (by decide +kernel) rfl
theorem lfX3_9 : Cond.fieldLink RX3 9 (TX3 0).1 (TX3 0).2.1 (TX3 0).2.2.1 ∈ TT := TT_1 222 (by decide +kernel) rfl
theorem lfX3_15 : Cond.fieldLink RX3 15 (TX3 1).1 (TX3 1).2.1 (TX3 1).2.2.1 ∈ TT := TT_1 223 (by decide +kernel) rfl
theorem lfX3_19 : Cond.fieldLink RX3 19 (TX3 2).1 (TX3 2).2.1 (TX3 2).2.2.1 ∈ TT := TT_1 224 (by decide +kernel) rfl
theorem lfX10_9 : Cond.fieldLink RX10 9 (TX10 0).1 (TX10 0).2.1 (TX10 0).2.2.1 ∈ TT := TT_1 238 (by decide +kernel) rfl
theorem lfX10_15 : Cond.fieldLink RX10 15 (TX10 1).1 (TX10 1).2.1 (TX10 1).2.2.1 ∈ TT := TT_1 239 (by decide +kernel) rfl
theorem lfX10_18 : Cond.fieldLink RX10 18 (TX10 2).1 (TX10 2).2.1 (TX10 2).2.2.1 ∈ TT := TT_2 0 (by decide +kernel) rfl
theorem lfX10_21 : Cond.fieldLink RX10 21 (TX10 3).1 (TX10 3).2.1 (TX10 3).2.2.1 ∈ TT := TT_2 1 (by decide +kernel) rfl
theorem lfX10_24 : Cond.fieldLink RX10 24 (TX10 4).1 (TX10 4).2.1 (TX10 4).2.2.1 ∈ TT := TT_2 2 (by decide +kernel) rfl
theorem lfX10_27 : Cond.fieldLink RX10 27 (TX10 5).1 (TX10 5).2.1 (TX10 5).2.2.1 ∈ TT := TT_2 3 (by decide +kernel) rfl
theorem lfX10_30 : Cond.fieldLink RX10 30 (TX10 6).1 (TX10 6).2.1 (TX10 6).2.2.1 ∈ TT := TT_2 4 (by decide +kernel) rfl
theorem lfX10_34 : Cond.fieldLink RX10 34 (TX10 7).1 (TX10 7).2.1 (TX10 7).2.2.1 ∈ TT := TT_2 5 (by decide +kernel) rfl
theorem lfX6_9 : Cond.fieldLink RX6 9 (TX6 0).1 (TX6 0).2.1 (TX6 0).2.2.1 ∈ TT := TT_2 29 (by decide +kernel) rfl
theorem lfX6_15 : Cond.fieldLink RX6 15 (TX6 1).1 (TX6 1).2.1 (TX6 1).2.2.1 ∈ TT := TT_2 30 (by decide +kernel) rfl
theorem lfX6_18 : Cond.fieldLink RX6 18 (TX6 2).1 (TX6 2).2.1 (TX6 2).2.2.1 ∈ TT := TT_2 31 (by decide +kernel) rfl
theorem lfX6_21 : Cond.fieldLink RX6 21 (TX6 3).1 (TX6 3).2.1 (TX6 3).2.2.1 ∈ TT := TT_2 32 (by decide +kernel) rfl
theorem lfX11_31 : Cond.fieldLink RX11 31 (TX11 0).1 (TX11 0).2.1 (TX11 0).2.2.1 ∈ TT := TT_2 42 (by decide +kernel) rfl
theorem lfX11_35 : Cond.fieldLink RX11 35 (TX11 1).1 (TX11 1).2.1 (TX11 1).2.2.1 ∈ TT := TT_2 43 (by decide +kernel) rfl
theorem lfX11_39 : Cond.fieldLink RX11 39 (TX11 2).1 (TX11 2).2.1 (TX11 2).2.2.1 ∈ TT := TT_2 44 (by decide +kernel) rfl
theorem lfX11_43 : Cond.fieldLink RX11 43 (TX11 3).1 (TX11 3).2.1 (TX11 3).2.2.1 ∈ TT := TT_2 45 (by decide +kernel) rfl
theorem lfX11_50 : Cond.fieldLink RX11 50 (TX11 4).1 (TX11 4).2.1 (TX11 4).2.2.1 ∈ TT := TT_2 46 (by decide +kernel) rfl
theorem lfX11_54 : Cond.fieldLink RX11 54 (TX11 5).1 (TX11 5).2.1 (TX11 5).2.2.1 ∈ TT := TT_2 47 (by decide +kernel) rfl
theorem lfX11_58 : Cond.fieldLink RX11 58 (TX11 6).1 (TX11 6).2.1 (TX11 6).2.2.1 ∈ TT := TT_2 48 (by decide +kernel) rfl
theorem lfX11_67 : Cond.fieldLink RX11 67 (TX11 7).1 (TX11 7).2.1 (TX11 7).2.2.1 ∈ TT := TT_2 49 (by decide +kernel) rfl
theorem lfX11_76 : Cond.fieldLink RX11 76 (TX11 8).1 (TX11 8).2.1 (TX11 8).2.2.1 ∈ TT := TT_2 50 (by decide +kernel) rfl
theorem lfX11_83 : Cond.fieldLink RX11 83 (TX11 9).1 (TX11 9).2.1 (TX11 9).2.2.1 ∈ TT := TT_2 51 (by decide +kernel) rfl
theorem lfX11_90 : Cond.fieldLink RX11 90 (TX11 10).1 (TX11 10).2.1 (TX11 10).2.2.1 ∈ TT := TT_2 52 (by decide +kernel) rfl
theorem lfX11_94 : Cond.fieldLink RX11 94 (TX11 11).1 (TX11 11).2.1 (TX11 11).2.2.1 ∈ TT := TT_2 53 (by decide +kernel) rfl
theorem lfX11_97 : Cond.fieldLink RX11 97 (TX11 12).1 (TX11 12).2.1 (TX11 12).2.2.1 ∈ TT := TT_2 54 (by decide +kernel) rfl
theorem lfX11_101 : Cond.fieldLink RX11 101 (TX11 13).1 (TX11 13).2.1 (TX11 13).2.2.1 ∈ TT := TT_2 55 (by decide +kernel) rfl
theorem lfX12_96 : Cond.fieldLink RX12 96 (TX12 0).1 (TX12 0).2.1 (TX12 0).2.2.1 ∈ TT := TT_5 49 (by decide +kernel) rfl
theorem lfX12_99 : Cond.fieldLink RX12 99 (TX12 1).1 (TX12 1).2.1 (TX12 1).2.2.1 ∈ TT := TT_5 50 (by decide +kernel) rfl
theorem lfX12_7 : Cond.fieldLink RX12 7 (TX12 2).1 (TX12 2).2.1 (TX12 2).2.2.1 ∈ TT := TT_5 51 (by decide +kernel) rfl
theorem lfX12_13 : Cond.fieldLink RX12 13 (TX12 3).1 (TX12 3).2.1 (TX12 3).2.2.1 ∈ TT := TT_5 52 (by decide +kernel) rfl
theorem lfX12_16 : Cond.fieldLink RX12 16 (TX12 4).1 (TX12 4).2.1 (TX12 4).2.2.1 ∈ TT := TT_5 53 (by decide +kernel) rfl
theorem lfX12_20 : Cond.fieldLink RX12 20 (TX12 5).1 (TX12 5).2.1 (TX12 5).2.2.1 ∈ TT := TT_5 54 (by decide +kernel) rfl
theorem lfX12_106 : Cond.fieldLink RX12 106 (TX12 6).1 (TX12 6).2.1 (TX12 6).2.2.1 ∈ TT := TT_5 55 (by decide +kernel) rfl
theorem lfX12_24 : Cond.fieldLink RX12 24 (TX12 7).1 (TX12 7).2.1 (TX12 7).2.2.1 ∈ TT := TT_5 56 (by decide +kernel) rfl
theorem lfX12_27 : Cond.fieldLink RX12 27 (TX12 8).1 (TX12 8).2.1 (TX12 8).2.2.1 ∈ TT := TT_5 57 (by decide +kernel) rfl
theorem lfX12_30 : Cond.fieldLink RX12 30 (TX12 9).1 (TX12 9).2.1 (TX12 9).2.2.1 ∈ TT := TT_5 58 (by decide +kernel) rfl
theorem lfX12_33 : Cond.fieldLink RX12 33 (TX12 10).1 (TX12 10).2.1 (TX12 10).2.2.1 ∈ TT := TT_5 59 (by decide +kernel) rfl
theorem lfX12_36 : Cond.fieldLink RX12 36 (TX12 11).1 (TX12 11).2.1 (TX12 11).2.2.1 ∈ TT := TT_5 60 (by decide +kernel) rfl
theorem lfX12_39 : Cond.fieldLink RX12 39 (TX12 12).1 (TX12 12).2.1 (TX12 12).2.2.1 ∈ TT := TT_5 61 (by decide +kernel) rfl
theorem lfX12_167 : Cond.fieldLink RX12 167 (TX12 13).1 (TX12 13).2.1 (TX12 13).2.2.1 ∈ TT := TT_5 62 (by decide +kernel) rfl
theorem lfX12_164 : Cond.fieldLink RX12 164 (TX12 14).1 (TX12 14).2.1 (TX12 14).2.2.1 ∈ TT := TT_5 63 (by decide +kernel) rfl
theorem lfX12_180 : Cond.fieldLink RX12 180 (TX12 15).1 (TX12 15).2.1 (TX12 15).2.2.1 ∈ TT := TT_5 64 (by decide +kernel) rfl
theorem lfX12_42 : Cond.fieldLink RX12 42 (TX12 16).1 (TX12 16).2.1 (TX12 16).2.2.1 ∈ TT := TT_5 65 (by decide +kernel) rfl
theorem lfX12_45 : Cond.fieldLink RX12 45 (TX12 17).1 (TX12 17).2.1 (TX12 17).2.2.1 ∈ TT := TT_5 66 (by decide +kernel) rfl
theorem lfX12_48 : Cond.fieldLink RX12 48 (TX12 18).1 (TX12 18).2.1 (TX12 18).2.2.1 ∈ TT := TT_5 67 (by decide +kernel) rfl
theorem lfX12_51 : Cond.fieldLink RX12 51 (TX12 19).1 (TX12 19).2.1 (TX12 19).2.2.1 ∈ TT := TT_5 68 (by decide +kernel) rfl
theorem lfX12_54 : Cond.fieldLink RX12 54 (TX12 20).1 (TX12 20).2.1 (TX12 20).2.2.1 ∈ TT := TT_5 69 (by decide +kernel) rfl
theorem lfX12_57 : Cond.fieldLink RX12 57 (TX12 21).1 (TX12 21).2.1 (TX12 21).2.2.1 ∈ TT := TT_5 70 (by decide +kernel) rfl
theorem lfX12_60 : Cond.fieldLink RX12 60 (TX12 22).1 (TX12 22).2.1 (TX12 22).2.2.1 ∈ TT := TT_5 71 (by decide +kernel) rfl
theorem lfX12_63 : Cond.fieldLink RX12 63 (TX12 23).1 (TX12 23).2.1 (TX12 23).2.2.1 ∈ TT := TT_5 72 (by decide +kernel) rfl
theorem lfX12_250 : Cond.fieldLink RX12 250 (TX12 24).1 (TX12 24).2.1 (TX12 24).2.2.1 ∈ TT := TT_5 73 (by decide +kernel) rfl
theorem lfX12_66 : Cond.fieldLink RX12 66 (TX12 25).1 (TX12 25).2.1 (TX12 25).2.2.1 ∈ TT := TT_5 74 (by decide +kernel) rfl
theorem lfX12_69 : Cond.fieldLink RX12 69 (TX12 26).1 (TX12 26).2.1 (TX12 26).2.2.1 ∈ TT := TT_5 75 (by decide +kernel) rfl
theorem lfX12_72 : Cond.fieldLink RX12 72 (TX12 27).1 (TX12 27).2.1 (TX12 27).2.2.1 ∈ TT := TT_5 76 (by decide +kernel) rfl
theorem lfX12_75 : Cond.fieldLink RX12 75 (TX12 28).1 (TX12 28).2.1 (TX12 28).2.2.1 ∈ TT := TT_5 77 (by decide +kernel) rfl
theorem lfX12_238 : Cond.fieldLink RX12 238 (TX12 29).1 (TX12 29).2.1 (TX12 29).2.2.1 ∈ TT := TT_5 78 (by decide +kernel) rfl
theorem lfX12_78 : Cond.fieldLink RX12 78 (TX12 30).1 (TX12 30).2.1 (TX12 30).2.2.1 ∈ TT := TT_5 79 (by decide +kernel) rfl
theorem lfX12_187 : Cond.fieldLink RX12 187 (TX12 31).1 (TX12 31).2.1 (TX12 31).2.2.1 ∈ TT := TT_5 80 (by decide +kernel) rfl
theorem lfX12_196 : Cond.fieldLink RX12 196 (TX12 32).1 (TX12 32).2.1 (TX12 32).2.2.1 ∈ TT := TT_5 81 (by decide +kernel) rfl
theorem lfX12_193 : Cond.fieldLink RX12 193 (TX12 33).1 (TX12 33).2.1 (TX12 33).2.2.1 ∈ TT := TT_5 82 (by decide +kernel) rfl
theorem lfX12_209 : Cond.fieldLink RX12 209 (TX12 34).1 (TX12 34).2.1 (TX12 34).2.2.1 ∈ TT := TT_5 83 (by decide +kernel) rfl
theorem lfX12_199 : Cond.fieldLink RX12 199 (TX12 35).1 (TX12 35).2.1 (TX12 35).2.2.1 ∈ TT := TT_5 84 (by decide +kernel) rfl
theorem lfX12_81 : Cond.fieldLink RX12 81 (TX12 36).1 (TX12 36).2.1 (TX12 36).2.2.1 ∈ TT := TT_5 85 (by decide +kernel) rfl
theorem lfX12_220 : Cond.fieldLink RX12 220 (TX12 37).1 (TX12 37).2.1 (TX12 37).2.2.1 ∈ TT := TT_5 86 (by decide +kernel) rfl
theorem lfX12_256 : Cond.fieldLink RX12 256 (TX12 38).1 (TX12 38).2.1 (TX12 38).2.2.1 ∈ TT := TT_5 87 (by decide +kernel) rfl
theorem lfX12_84 : Cond.fieldLink RX12 84 (TX12 39).1 (TX12 39).2.1 (TX12 39).2.2.1 ∈ TT := TT_5 88 (by decide +kernel) rfl
theorem lfX12_271 : Cond.fieldLink RX12 271 (TX12 40).1 (TX12 40).2.1 (TX12 40).2.2.1 ∈ TT := TT_5 89 (by decide +kernel) rfl
theorem lfX12_87 : Cond.fieldLink RX12 87 (TX12 41).1 (TX12 41).2.1 (TX12 41).2.2.1 ∈ TT := TT_5 90 (by decide +kernel) rfl
theorem lfX12_90 : Cond.fieldLink RX12 90 (TX12 42).1 (TX12 42).2.1 (TX12 42).2.2.1 ∈ TT := TT_5 91 (by decide +kernel) rfl
theorem lfX12_93 : Cond.fieldLink RX12 93 (TX12 43).1 (TX12 43).2.1 (TX12 43).2.2.1 ∈ TT := TT_5 92 (by decide +kernel) rfl
theorem lmL_9 : Cond.methodLink RL 9 yX11_init ∈ TT := TT_1 24 (by decide +kernel) rfl
theorem lmX11_14 : Cond.methodLink RX11 14 yX1_init ∈ TT := TT_1 52 (by decide +kernel) rfl
theorem lmX11_19 : Cond.methodLink RX11 19 yX8_init ∈ TT := TT_1 81 (by decide +kernel) rfl
theorem lmX11_25 : Cond.methodLink RX11 25 yX0_init ∈ TT := TT_1 131 (by decide +kernel) rfl
theorem lmX11_49 : Cond.methodLink RX11 49 yX5_init ∈ TT := TT_1 157 (by decide +kernel) rfl
theorem lmX11_64 : Cond.methodLink RX11 64 yX7_init ∈ TT := TT_1 202 (by decide +kernel) rfl
theorem lmX11_73 : Cond.methodLink RX11 73 yX3_init ∈ TT := TT_1 218 (by decide +kernel) rfl
theorem lmL_13 : Cond.methodLink RL 13 yX11_size ∈ TT := TT_2 85 (by decide +kernel) rfl
theorem lmX11_104 : Cond.methodLink RX11 104 yX11_answered ∈ TT := TT_2 89 (by decide +kernel) rfl
theorem lmX11_264 : Cond.methodLink RX11 264 yJ9_min_7cf53 ∈ TT := TT_2 93 (by decide +kernel) rfl
theorem lmX11_108 : Cond.methodLink RX11 108 yX2_resize ∈ TT := TT_2 96 (by decide +kernel) rfl
theorem lmX2_29 : Cond.methodLink RX2 29 yJ7_fill_53178 ∈ TT := TT_2 100 (by decide +kernel) rfl
theorem lmL_18 : Cond.methodLink RL 18 yX11_draw ∈ TT := TT_2 103 (by decide +kernel) rfl
theorem lmX11_112 : Cond.methodLink RX11 112 yX11_isSort ∈ TT := TT_2 107 (by decide +kernel) rfl
theorem lmX11_278 : Cond.methodLink RX11 278 yX11_isClay ∈ TT := TT_2 110 (by decide +kernel) rfl
theorem lmX11_116 : Cond.methodLink RX11 116 yX2_has ∈ TT := TT_2 113 (by decide +kernel) rfl
theorem lmX11_120 : Cond.methodLink RX11 120 yX2_fill ∈ TT := TT_2 117 (by decide +kernel) rfl
theorem lmX2_25 : Cond.methodLink RX2 25 yX2_has ∈ TT := TT_2 121 (by decide +kernel) rfl
theorem lmL_23 : Cond.methodLink RL 23 yX11_cell ∈ TT := TT_2 122 (by decide +kernel) rfl
theorem lmX11_124 : Cond.methodLink RX11 124 yX2_sortAt ∈ TT := TT_2 126 (by decide +kernel) rfl
theorem lmX11_128 : Cond.methodLink RX11 128 yX1_refresh ∈ TT := TT_2 130 (by decide +kernel) rfl
theorem lmX1_36 : Cond.methodLink RX1 36 yX2_edition ∈ TT := TT_2 134 (by decide +kernel) rfl
theorem lmX1_41 : Cond.methodLink RX1 41 yX1_letMetalCome ∈ TT := TT_2 138 (by decide +kernel) rfl
theorem lmX1_88 : Cond.methodLink RX1 88 yX1_startFlood ∈ TT := TT_2 142 (by decide +kernel) rfl
theorem lmX1_51 : Cond.methodLink RX1 51 yX2_height ∈ TT := TT_2 146 (by decide +kernel) rfl
theorem lmX1_54 : Cond.methodLink RX1 54 yX2_width ∈ TT := TT_2 150 (by decide +kernel) rfl
theorem lmX1_91 : Cond.methodLink RX1 91 yX2_sortAt ∈ TT := TT_2 154 (by decide +kernel) rfl
theorem lmX1_94 : Cond.methodLink RX1 94 yX1_reach ∈ TT := TT_2 155 (by decide +kernel) rfl
theorem lmX1_105 : Cond.methodLink RX1 105 yX2_isHollow ∈ TT := TT_2 159 (by decide +kernel) rfl
theorem lmX1_108 : Cond.methodLink RX1 108 yX1_isReached ∈ TT := TT_2 163 (by decide +kernel) rfl
theorem lmX1_47 : Cond.methodLink RX1 47 yX2_has ∈ TT := TT_2 167 (by decide +kernel) rfl
theorem lmX1_98 : Cond.methodLink RX1 98 yX1_flood ∈ TT := TT_2 168 (by decide +kernel) rfl
theorem lmX1_102 : Cond.methodLink RX1 102 yX1_fateWithAir ∈ TT := TT_2 176 (by decide +kernel) rfl
theorem lmX1_44 : Cond.methodLink RX1 44 yX1_letAirOut ∈ TT := TT_2 180 (by decide +kernel) rfl
theorem lmX1_111 : Cond.methodLink RX1 111 yX1_castRow ∈ TT := TT_2 184 (by decide +kernel) rfl
theorem lmX1_57 : Cond.methodLink RX1 57 yX1_fateAt ∈ TT := TT_2 188 (by decide +kernel) rfl
theorem lmX11_131 : Cond.methodLink RX11 131 yX1_fateAt ∈ TT := TT_2 192 (by decide +kernel) rfl
theorem lmL_28 : Cond.methodLink RL 28 yX11_repair ∈ TT := TT_2 193 (by decide +kernel) rfl
theorem lmX11_134 : Cond.methodLink RX11 134 yX1_canMend ∈ TT := TT_2 197 (by decide +kernel) rfl
theorem lmX1_70 : Cond.methodLink RX1 70 yX1_isMetal ∈ TT := TT_2 201 (by decide +kernel) rfl
theorem lmX11_137 : Cond.methodLink RX11 137 yX1_mend ∈ TT := TT_2 205 (by decide +kernel) rfl
theorem lmX1_73 : Cond.methodLink RX1 73 yX1_howMany ∈ TT := TT_2 209 (by decide +kernel) rfl
theorem lmL_32 : Cond.methodLink RL 32 yX11_wall ∈ TT := TT_2 213 (by decide +kernel) rfl
theorem lmX11_140 : Cond.methodLink RX11 140 yX1_leastWall ∈ TT := TT_2 217 (by decide +kernel) rfl
theorem lmX1_85 : Cond.methodLink RX1 85 yX1_wallAt ∈ TT := TT_2 221 (by decide +kernel) rfl
theorem lmX1_76 : Cond.methodLink RX1 76 yX1_stretch ∈ TT := TT_2 225 (by decide +kernel) rfl
theorem lmX1_80 : Cond.methodLink RX1 80 yJ9_min_7cf53 ∈ TT := TT_2 229 (by decide +kernel) rfl
theorem lmX11_144 : Cond.methodLink RX11 144 yX1_wallAt ∈ TT := TT_2 230 (by decide +kernel) rfl
theorem lmL_36 : Cond.methodLink RL 36 yX11_many ∈ TT := TT_2 231 (by decide +kernel) rfl
theorem lmX11_147 : Cond.methodLink RX11 147 yX1_howMany ∈ TT := TT_2 235 (by decide +kernel) rfl
theorem lmX11_150 : Cond.methodLink RX11 150 yX2_howMany ∈ TT := TT_2 236 (by decide +kernel) rfl
theorem lmX2_35 : Cond.methodLink RX2 35 yX2_sortAt ∈ TT := TT_3 0 (by decide +kernel) rfl
theorem lmL_41 : Cond.methodLink RL 41 yX11_off ∈ TT := TT_3 1 (by decide +kernel) rfl
theorem lmX11_152 : Cond.methodLink RX11 152 yX8_refresh ∈ TT := TT_3 5 (by decide +kernel) rfl
theorem lmX8_48 : Cond.methodLink RX8 48 yX2_edition ∈ TT := TT_3 9 (by decide +kernel) rfl
theorem lmX8_52 : Cond.methodLink RX8 52 yJ7_fill_53178 ∈ TT := TT_3 10 (by decide +kernel) rfl
theorem lmX8_58 : Cond.methodLink RX8 58 yX8_lookFromEdge ∈ TT := TT_3 11 (by decide +kernel) rfl
theorem lmX8_66 : Cond.methodLink RX8 66 yX2_height ∈ TT := TT_3 15 (by decide +kernel) rfl
theorem lmX8_69 : Cond.methodLink RX8 69 yX2_width ∈ TT := TT_3 16 (by decide +kernel) rfl
theorem lmX8_78 : Cond.methodLink RX8 78 yX2_has ∈ TT := TT_3 19 (by decide +kernel) rfl
theorem lmX8_82 : Cond.methodLink RX8 82 yX8_lookBack ∈ TT := TT_3 20 (by decide +kernel) rfl
theorem lmX8_86 : Cond.methodLink RX8 86 yX2_sortAt ∈ TT := TT_3 24 (by decide +kernel) rfl
theorem lmX8_93 : Cond.methodLink RX8 93 yX8_maskOf ∈ TT := TT_3 26 (by decide +kernel) rfl
theorem lmX8_62 : Cond.methodLink RX8 62 yX8_takeLowestOff ∈ TT := TT_3 29 (by decide +kernel) rfl
theorem lmX8_96 : Cond.methodLink RX8 96 yX8_lowestWay ∈ TT := TT_3 33 (by decide +kernel) rfl
theorem lmX11_153 : Cond.methodLink RX11 153 yX11_howManyPieces ∈ TT := TT_3 37 (by decide +kernel) rfl
theorem lmX11_269 : Cond.methodLink RX11 269 yX8_goneCount ∈ TT := TT_3 41 (by decide +kernel) rfl
theorem lmX8_35 : Cond.methodLink RX8 35 yJ6_bitCount_0f7a4 ∈ TT := TT_3 45 (by decide +kernel) rfl
theorem lmX11_272 : Cond.methodLink RX11 272 yX8_stuckCount ∈ TT := TT_3 51 (by decide +kernel) rfl
theorem lmX8_41 : Cond.methodLink RX8 41 yX8_pieceCount ∈ TT := TT_3 55 (by decide +kernel) rfl
theorem lmX8_45 : Cond.methodLink RX8 45 yX8_goneCount ∈ TT := TT_3 59 (by decide +kernel) rfl
theorem lmX11_275 : Cond.methodLink RX11 275 yX8_pieceCount ∈ TT := TT_3 60 (by decide +kernel) rfl
theorem lmX11_156 : Cond.methodLink RX11 156 yX8_pieceAt ∈ TT := TT_3 61 (by decide +kernel) rfl
theorem lmX11_159 : Cond.methodLink RX11 159 yX8_wayAt ∈ TT := TT_3 65 (by decide +kernel) rfl
theorem lmL_45 : Cond.methodLink RL 45 yX11_lot ∈ TT := TT_3 69 (by decide +kernel) rfl
theorem lmX11_162 : Cond.methodLink RX11 162 yX11_isWithin ∈ TT := TT_3 73 (by decide +kernel) rfl
theorem lmX11_165 : Cond.methodLink RX11 165 yX4_isFull ∈ TT := TT_3 76 (by decide +kernel) rfl
theorem lmX11_169 : Cond.methodLink RX11 169 yX4_add ∈ TT := TT_3 80 (by decide +kernel) rfl
theorem lmX4_28 : Cond.methodLink RX4 28 yX4_isFull ∈ TT := TT_3 84 (by decide +kernel) rfl
theorem lmL_50 : Cond.methodLink RL 50 yX11_mix ∈ TT := TT_3 85 (by decide +kernel) rfl
theorem lmX11_173 : Cond.methodLink RX11 173 yX5_find ∈ TT := TT_3 89 (by decide +kernel) rfl
theorem lmX5_53 : Cond.methodLink RX5 53 yX5_lastOfLots ∈ TT := TT_3 93 (by decide +kernel) rfl
theorem lmX5_68 : Cond.methodLink RX5 68 yX4_length ∈ TT := TT_3 97 (by decide +kernel) rfl
theorem lmX5_73 : Cond.methodLink RX5 73 yJ9_max_7cf53 ∈ TT := TT_3 101 (by decide +kernel) rfl
theorem lmX5_79 : Cond.methodLink RX5 79 yJ9_min_7cf53 ∈ TT := TT_3 104 (by decide +kernel) rfl
theorem lmX5_57 : Cond.methodLink RX5 57 yX5_weigh ∈ TT := TT_3 105 (by decide +kernel) rfl
theorem lmX5_82 : Cond.methodLink RX5 82 yX4_priceAt ∈ TT := TT_3 109 (by decide +kernel) rfl
theorem lmX4_32 : Cond.methodLink RX4 32 yX4_has ∈ TT := TT_3 113 (by decide +kernel) rfl
theorem lmX5_86 : Cond.methodLink RX5 86 yX4_tinAt ∈ TT := TT_3 117 (by decide +kernel) rfl
theorem lmX5_89 : Cond.methodLink RX5 89 yX4_leadAt ∈ TT := TT_3 121 (by decide +kernel) rfl
theorem lmX5_60 : Cond.methodLink RX5 60 yX5_foresee ∈ TT := TT_3 125 (by decide +kernel) rfl
theorem lmX5_92 : Cond.methodLink RX5 92 yX4_unitsAt ∈ TT := TT_3 129 (by decide +kernel) rfl
theorem lmX5_95 : Cond.methodLink RX5 95 yX5_foreseeFrom ∈ TT := TT_3 133 (by decide +kernel) rfl
theorem lmX5_64 : Cond.methodLink RX5 64 yX5_search ∈ TT := TT_3 137 (by decide +kernel) rfl
theorem lmX5_99 : Cond.methodLink RX5 99 yX5_shareOut ∈ TT := TT_3 141 (by decide +kernel) rfl
theorem lmX5_109 : Cond.methodLink RX5 109 yX5_narrow ∈ TT := TT_3 145 (by decide +kernel) rfl
theorem lmX5_115 : Cond.methodLink RX5 115 yJ9_floorDiv_7cf53 ∈ TT := TT_3 149 (by decide +kernel) rfl
theorem lmX5_112 : Cond.methodLink RX5 112 yX5_keepRow ∈ TT := TT_3 152 (by decide +kernel) rfl
theorem lmX5_102 : Cond.methodLink RX5 102 yX5_goOn ∈ TT := TT_3 159 (by decide +kernel) rfl
theorem lmX5_105 : Cond.methodLink RX5 105 yX5_staysBelow ∈ TT := TT_3 163 (by decide +kernel) rfl
theorem lmX11_177 : Cond.methodLink RX11 177 yX5_unitsOf ∈ TT := TT_3 167 (by decide +kernel) rfl
theorem lmX11_180 : Cond.methodLink RX11 180 yX0_put ∈ TT := TT_3 171 (by decide +kernel) rfl
theorem lmX11_183 : Cond.methodLink RX11 183 yX5_price ∈ TT := TT_3 175 (by decide +kernel) rfl
theorem lmL_54 : Cond.methodLink RL 54 yX11_mixed ∈ TT := TT_3 179 (by decide +kernel) rfl
theorem lmX11_186 : Cond.methodLink RX11 186 yX0_isThere ∈ TT := TT_3 183 (by decide +kernel) rfl
theorem lmX0_25 : Cond.methodLink RX0 25 yX0_total ∈ TT := TT_3 187 (by decide +kernel) rfl
theorem lmX11_189 : Cond.methodLink RX11 189 yX0_total ∈ TT := TT_3 191 (by decide +kernel) rfl
theorem lmX11_192 : Cond.methodLink RX11 192 yX4_has ∈ TT := TT_3 192 (by decide +kernel) rfl
theorem lmX11_194 : Cond.methodLink RX11 194 yX0_unitsOf ∈ TT := TT_3 193 (by decide +kernel) rfl
theorem lmL_58 : Cond.methodLink RL 58 yX11_pour ∈ TT := TT_3 197 (by decide +kernel) rfl
theorem lmX11_195 : Cond.methodLink RX11 195 yX0_takeFromLots ∈ TT := TT_3 201 (by decide +kernel) rfl
theorem lmX0_44 : Cond.methodLink RX0 44 yX4_unitsAt ∈ TT := TT_3 205 (by decide +kernel) rfl
theorem lmX0_47 : Cond.methodLink RX0 47 yX4_take ∈ TT := TT_3 206 (by decide +kernel) rfl
theorem lmX11_198 : Cond.methodLink RX11 198 yX0_clear ∈ TT := TT_3 210 (by decide +kernel) rfl
theorem lmX0_19 : Cond.methodLink RX0 19 yJ7_fill_53178 ∈ TT := TT_3 214 (by decide +kernel) rfl
theorem lmL_63 : Cond.methodLink RL 63 yX11_left ∈ TT := TT_3 215 (by decide +kernel) rfl
theorem lmX11_201 : Cond.methodLink RX11 201 yX4_unitsAt ∈ TT := TT_3 219 (by decide +kernel) rfl
theorem lmL_67 : Cond.methodLink RL 67 yX11_feed ∈ TT := TT_3 220 (by decide +kernel) rfl
theorem lmX11_204 : Cond.methodLink RX11 204 yX9_length ∈ TT := TT_3 224 (by decide +kernel) rfl
theorem lmX11_207 : Cond.methodLink RX11 207 yX9_addNumber ∈ TT := TT_3 228 (by decide +kernel) rfl
theorem lmL_71 : Cond.methodLink RL 71 yX11_end ∈ TT := TT_3 232 (by decide +kernel) rfl
theorem lmX11_211 : Cond.methodLink RX11 211 yX9_cut ∈ TT := TT_3 236 (by decide +kernel) rfl
theorem lmL_75 : Cond.methodLink RL 75 yX11_rules ∈ TT := TT_4 0 (by decide +kernel) rfl
theorem lmX11_214 : Cond.methodLink RX11 214 yX7_read ∈ TT := TT_4 4 (by decide +kernel) rfl
theorem lmX7_22 : Cond.methodLink RX7 22 yX6_clear ∈ TT := TT_4 8 (by decide +kernel) rfl
theorem lmX7_27 : Cond.methodLink RX7 27 yX7_advance ∈ TT := TT_4 12 (by decide +kernel) rfl
theorem lmX7_125 : Cond.methodLink RX7 125 yX9_length ∈ TT := TT_4 16 (by decide +kernel) rfl
theorem lmX7_104 : Cond.methodLink RX7 104 yX9_byteAt ∈ TT := TT_4 17 (by decide +kernel) rfl
theorem lmX7_112 : Cond.methodLink RX7 112 yJ9_min_7cf53 ∈ TT := TT_4 21 (by decide +kernel) rfl
theorem lmX7_126 : Cond.methodLink RX7 126 yX7_isLetter ∈ TT := TT_4 22 (by decide +kernel) rfl
theorem lmX7_109 : Cond.methodLink RX7 109 yX7_isDigit ∈ TT := TT_4 25 (by decide +kernel) rfl
theorem lmX7_30 : Cond.methodLink RX7 30 yX7_isAtEnd ∈ TT := TT_4 28 (by decide +kernel) rfl
theorem lmX7_34 : Cond.methodLink RX7 34 yX7_readRule ∈ TT := TT_4 32 (by decide +kernel) rfl
theorem lmX7_44 : Cond.methodLink RX7 44 yX7_kindHere ∈ TT := TT_4 36 (by decide +kernel) rfl
theorem lmX7_71 : Cond.methodLink RX7 71 yX7_nameOf ∈ TT := TT_4 40 (by decide +kernel) rfl
theorem lmX7_40 : Cond.methodLink RX7 40 yX7_isWord ∈ TT := TT_4 52 (by decide +kernel) rfl
theorem lmX7_118 : Cond.methodLink RX7 118 yJ0_length_8abf5 ∈ TT := TT_4 56 (by decide +kernel) rfl
theorem lmJ0_335 : Cond.methodLink RJ0 335 yJ0_coder_7d493 ∈ TT := TT_4 60 (by decide +kernel) rfl
theorem lmX7_121 : Cond.methodLink RX7 121 yJ0_charAt_5068e ∈ TT := TT_4 66 (by decide +kernel) rfl
theorem lmJ0_492 : Cond.methodLink RJ0 492 yJ0_isLatin1_aae02 ∈ TT := TT_4 70 (by decide +kernel) rfl
theorem lmJ0_495 : Cond.methodLink RJ0 495 yJ1_charAt_3b067 ∈ TT := TT_4 74 (by decide +kernel) rfl
theorem lmJ1_9 : Cond.methodLink RJ1 9 yJ0_checkIndex_df160 ∈ TT := TT_4 77 (by decide +kernel) rfl
theorem lmJ0_1059 : Cond.methodLink RJ0 1059 yJ3_checkIndex_8e157 ∈ TT := TT_4 82 (by decide +kernel) rfl
theorem lmJ0_498 : Cond.methodLink RJ0 498 yJ2_charAt_3b067 ∈ TT := TT_4 85 (by decide +kernel) rfl
theorem lmJ2_67 : Cond.methodLink RJ2 67 yJ2_checkIndex_2214a ∈ TT := TT_4 88 (by decide +kernel) rfl
theorem lmJ2_48 : Cond.methodLink RJ2 48 yJ2_length_9d52b ∈ TT := TT_4 91 (by decide +kernel) rfl
theorem lmJ2_414 : Cond.methodLink RJ2 414 yJ0_checkIndex_df160 ∈ TT := TT_4 94 (by decide +kernel) rfl
theorem lmJ2_71 : Cond.methodLink RJ2 71 yJ2_getChar_3b067 ∈ TT := TT_4 95 (by decide +kernel) rfl
theorem lmX7_48 : Cond.methodLink RX7 48 yX7_wordAhead ∈ TT := TT_4 104 (by decide +kernel) rfl
theorem lmX7_92 : Cond.methodLink RX7 92 yX7_isOfMetal ∈ TT := TT_4 107 (by decide +kernel) rfl
theorem lmX7_52 : Cond.methodLink RX7 52 yJ0_isEmpty_aae02 ∈ TT := TT_4 112 (by decide +kernel) rfl
theorem lmX7_57 : Cond.methodLink RX7 57 yX7_skipWord ∈ TT := TT_4 116 (by decide +kernel) rfl
theorem lmX7_60 : Cond.methodLink RX7 60 yX7_readNumber ∈ TT := TT_4 120 (by decide +kernel) rfl
theorem lmX7_64 : Cond.methodLink RX7 64 yX7_wordBetween ∈ TT := TT_4 124 (by decide +kernel) rfl
theorem lmX7_67 : Cond.methodLink RX7 67 yX6_add ∈ TT := TT_4 129 (by decide +kernel) rfl
theorem lmX11_218 : Cond.methodLink RX11 218 yX6_length ∈ TT := TT_4 134 (by decide +kernel) rfl
theorem lmL_79 : Cond.methodLink RL 79 yX11_fault ∈ TT := TT_4 139 (by decide +kernel) rfl
theorem lmL_83 : Cond.methodLink RL 83 yX11_broken ∈ TT := TT_4 143 (by decide +kernel) rfl
theorem lmX11_219 : Cond.methodLink RX11 219 yX6_kindAt ∈ TT := TT_4 147 (by decide +kernel) rfl
theorem lmX11_222 : Cond.methodLink RX11 222 yX6_firstAt ∈ TT := TT_4 151 (by decide +kernel) rfl
theorem lmX11_225 : Cond.methodLink RX11 225 yX6_secondAt ∈ TT := TT_4 155 (by decide +kernel) rfl
theorem lmX11_228 : Cond.methodLink RX11 228 yX3_isBroken ∈ TT := TT_4 159 (by decide +kernel) rfl
theorem lmX3_23 : Cond.methodLink RX3 23 yX0_tin ∈ TT := TT_4 163 (by decide +kernel) rfl
theorem lmX0_29 : Cond.methodLink RX0 29 yX4_tinAt ∈ TT := TT_4 167 (by decide +kernel) rfl
theorem lmX3_29 : Cond.methodLink RX3 29 yX3_isOutside ∈ TT := TT_4 168 (by decide +kernel) rfl
theorem lmX3_62 : Cond.methodLink RX3 62 yX0_total ∈ TT := TT_4 172 (by decide +kernel) rfl
theorem lmX3_33 : Cond.methodLink RX3 33 yX0_lead ∈ TT := TT_4 173 (by decide +kernel) rfl
theorem lmX0_35 : Cond.methodLink RX0 35 yX4_leadAt ∈ TT := TT_4 177 (by decide +kernel) rfl
theorem lmX3_36 : Cond.methodLink RX3 36 yX0_copper ∈ TT := TT_4 178 (by decide +kernel) rfl
theorem lmX0_38 : Cond.methodLink RX0 38 yX0_tin ∈ TT := TT_4 182 (by decide +kernel) rfl
theorem lmX0_41 : Cond.methodLink RX0 41 yX0_lead ∈ TT := TT_4 183 (by decide +kernel) rfl
theorem lmX3_39 : Cond.methodLink RX3 39 yX1_leastWall ∈ TT := TT_4 184 (by decide +kernel) rfl
theorem lmX3_44 : Cond.methodLink RX3 44 yX1_howMany ∈ TT := TT_4 185 (by decide +kernel) rfl
theorem lmX3_48 : Cond.methodLink RX3 48 yX8_stuckCount ∈ TT := TT_4 186 (by decide +kernel) rfl
theorem lmX3_53 : Cond.methodLink RX3 53 yX8_pieceCount ∈ TT := TT_4 187 (by decide +kernel) rfl
theorem lmX3_56 : Cond.methodLink RX3 56 yX1_howManySpacers ∈ TT := TT_4 188 (by decide +kernel) rfl
theorem lmX1_61 : Cond.methodLink RX1 61 yX2_howMany ∈ TT := TT_4 192 (by decide +kernel) rfl
theorem lmX3_59 : Cond.methodLink RX3 59 yX1_howManyCores ∈ TT := TT_4 193 (by decide +kernel) rfl
theorem lmL_87 : Cond.methodLink RL 87 yX11_vessel ∈ TT := TT_4 197 (by decide +kernel) rfl
theorem lmX11_233 : Cond.methodLink RX11 233 yX10_isFull ∈ TT := TT_4 202 (by decide +kernel) rfl
theorem lmX11_234 : Cond.methodLink RX11 234 yX10_add ∈ TT := TT_4 206 (by decide +kernel) rfl
theorem lmX10_37 : Cond.methodLink RX10 37 yX10_isFull ∈ TT := TT_4 210 (by decide +kernel) rfl
theorem lmL_91 : Cond.methodLink RL 91 yX11_like ∈ TT := TT_4 211 (by decide +kernel) rfl
theorem lmX11_236 : Cond.methodLink RX11 236 yX10_has ∈ TT := TT_4 215 (by decide +kernel) rfl
theorem lmX11_237 : Cond.methodLink RX11 237 yX10_likeness ∈ TT := TT_4 219 (by decide +kernel) rfl
theorem lmX10_41 : Cond.methodLink RX10 41 yX10_has ∈ TT := TT_4 223 (by decide +kernel) rfl
theorem lmL_95 : Cond.methodLink RL 95 yX11_tell ∈ TT := TT_4 224 (by decide +kernel) rfl
theorem lmX11_240 : Cond.methodLink RX11 240 yX10_isToldFull ∈ TT := TT_4 228 (by decide +kernel) rfl
theorem lmX11_243 : Cond.methodLink RX11 243 yX10_addTold ∈ TT := TT_4 232 (by decide +kernel) rfl
theorem lmX10_45 : Cond.methodLink RX10 45 yX10_isToldFull ∈ TT := TT_4 236 (by decide +kernel) rfl
theorem lmL_99 : Cond.methodLink RL 99 yX11_of ∈ TT := TT_4 237 (by decide +kernel) rfl
theorem lmX11_247 : Cond.methodLink RX11 247 yX10_workshopOf ∈ TT := TT_5 1 (by decide +kernel) rfl
theorem lmL_103 : Cond.methodLink RL 103 yX11_by ∈ TT := TT_5 5 (by decide +kernel) rfl
theorem lmX11_250 : Cond.methodLink RX11 250 yX10_workshopByMarks ∈ TT := TT_5 9 (by decide +kernel) rfl
theorem lmX10_48 : Cond.methodLink RX10 48 yX10_compareWithOthers ∈ TT := TT_5 13 (by decide +kernel) rfl
theorem lmX10_56 : Cond.methodLink RX10 56 yJ7_fill_53178 ∈ TT := TT_5 17 (by decide +kernel) rfl
theorem lmX10_62 : Cond.methodLink RX10 62 yX10_workshopOf ∈ TT := TT_5 18 (by decide +kernel) rfl
theorem lmX10_66 : Cond.methodLink RX10 66 yX10_likeness ∈ TT := TT_5 19 (by decide +kernel) rfl
theorem lmX10_52 : Cond.methodLink RX10 52 yX10_isLiker ∈ TT := TT_5 20 (by decide +kernel) rfl
theorem lmL_107 : Cond.methodLink RL 107 yX11_count ∈ TT := TT_5 24 (by decide +kernel) rfl
theorem lmX11_253 : Cond.methodLink RX11 253 yX2_width ∈ TT := TT_5 28 (by decide +kernel) rfl
theorem lmX11_256 : Cond.methodLink RX11 256 yX2_height ∈ TT := TT_5 29 (by decide +kernel) rfl
theorem lmX11_259 : Cond.methodLink RX11 259 yX4_length ∈ TT := TT_5 30 (by decide +kernel) rfl
theorem lmX11_260 : Cond.methodLink RX11 260 yX10_length ∈ TT := TT_5 31 (by decide +kernel) rfl
theorem lmX11_261 : Cond.methodLink RX11 261 yX10_toldLength ∈ TT := TT_5 35 (by decide +kernel) rfl
theorem lmL_111 : Cond.methodLink RL 111 yX11_status ∈ TT := TT_5 39 (by decide +kernel) rfl
theorem lmL_12 : Cond.methodLink RL 12 yX12_init ∈ TT := TT_5 45 (by decide +kernel) rfl
theorem lmL_17 : Cond.methodLink RL 17 yX12_size ∈ TT := TT_5 182 (by decide +kernel) rfl
theorem lmX12_102 : Cond.methodLink RX12 102 yX12_in ∈ TT := TT_5 188 (by decide +kernel) rfl
theorem lmX12_113 : Cond.methodLink RX12 113 yX12_told ∈ TT := TT_5 191 (by decide +kernel) rfl
theorem lmX12_117 : Cond.methodLink RX12 117 yX12_forget ∈ TT := TT_5 195 (by decide +kernel) rfl
theorem lmL_22 : Cond.methodLink RL 22 yX12_draw ∈ TT := TT_5 199 (by decide +kernel) rfl
theorem lmX12_126 : Cond.methodLink RX12 126 yX12_isCell ∈ TT := TT_5 206 (by decide +kernel) rfl
theorem lmL_27 : Cond.methodLink RL 27 yX12_cell ∈ TT := TT_5 210 (by decide +kernel) rfl
theorem lmX12_145 : Cond.methodLink RX12 145 yX12_pourMould ∈ TT := TT_5 214 (by decide +kernel) rfl
theorem lmX12_137 : Cond.methodLink RX12 137 yX12_join ∈ TT := TT_5 218 (by decide +kernel) rfl
theorem lmX12_130 : Cond.methodLink RX12 130 yX12_melt ∈ TT := TT_5 222 (by decide +kernel) rfl
theorem lmX12_133 : Cond.methodLink RX12 133 yX12_isHollow ∈ TT := TT_5 226 (by decide +kernel) rfl
theorem lmX12_141 : Cond.methodLink RX12 141 yX12_has ∈ TT := TT_5 230 (by decide +kernel) rfl
theorem lmL_31 : Cond.methodLink RL 31 yX12_repair ∈ TT := TT_5 234 (by decide +kernel) rfl
theorem lmX12_148 : Cond.methodLink RX12 148 yX12_isCast ∈ TT := TT_5 238 (by decide +kernel) rfl
theorem lmL_35 : Cond.methodLink RL 35 yX12_wall ∈ TT := TT_6 2 (by decide +kernel) rfl
theorem lmX12_155 : Cond.methodLink RX12 155 yX12_wallOf ∈ TT := TT_6 6 (by decide +kernel) rfl
theorem lmX12_151 : Cond.methodLink RX12 151 yX12_wallAt ∈ TT := TT_6 10 (by decide +kernel) rfl
theorem lmL_40 : Cond.methodLink RL 40 yX12_many ∈ TT := TT_6 14 (by decide +kernel) rfl
theorem lmX12_161 : Cond.methodLink RX12 161 yX12_cellsOf ∈ TT := TT_6 19 (by decide +kernel) rfl
theorem lmL_44 : Cond.methodLink RL 44 yX12_off ∈ TT := TT_6 23 (by decide +kernel) rfl
theorem lmX12_173 : Cond.methodLink RX12 173 yX12_drawOff ∈ TT := TT_6 27 (by decide +kernel) rfl
theorem lmX12_170 : Cond.methodLink RX12 170 yX12_canGo ∈ TT := TT_6 31 (by decide +kernel) rfl
theorem lmL_49 : Cond.methodLink RL 49 yX12_lot ∈ TT := TT_6 35 (by decide +kernel) rfl
theorem lmL_53 : Cond.methodLink RL 53 yX12_mix ∈ TT := TT_6 41 (by decide +kernel) rfl
theorem lmX12_183 : Cond.methodLink RX12 183 yX12_priceOf ∈ TT := TT_6 45 (by decide +kernel) rfl
theorem lmL_57 : Cond.methodLink RL 57 yX12_mixed ∈ TT := TT_6 49 (by decide +kernel) rfl
theorem lmL_62 : Cond.methodLink RL 62 yX12_pour ∈ TT := TT_6 53 (by decide +kernel) rfl
theorem lmL_66 : Cond.methodLink RL 66 yX12_left ∈ TT := TT_6 57 (by decide +kernel) rfl
theorem lmL_70 : Cond.methodLink RL 70 yX12_feed ∈ TT := TT_6 61 (by decide +kernel) rfl
theorem lmX12_190 : Cond.methodLink RX12 190 yX12_four ∈ TT := TT_6 65 (by decide +kernel) rfl
theorem lmL_74 : Cond.methodLink RL 74 yX12_end ∈ TT := TT_6 69 (by decide +kernel) rfl
theorem lmL_78 : Cond.methodLink RL 78 yX12_rules ∈ TT := TT_6 73 (by decide +kernel) rfl
theorem lmX12_224 : Cond.methodLink RX12 224 yX12_next ∈ TT := TT_6 77 (by decide +kernel) rfl
theorem lmX12_203 : Cond.methodLink RX12 203 yX12_isSmall ∈ TT := TT_6 81 (by decide +kernel) rfl
theorem lmX12_206 : Cond.methodLink RX12 206 yX12_isDigit ∈ TT := TT_6 84 (by decide +kernel) rfl
theorem lmX12_245 : Cond.methodLink RX12 245 yX12_readRule ∈ TT := TT_6 91 (by decide +kernel) rfl
theorem lmX12_235 : Cond.methodLink RX12 235 yX12_sortAt ∈ TT := TT_6 95 (by decide +kernel) rfl
theorem lmX12_231 : Cond.methodLink RX12 231 yX12_isWord ∈ TT := TT_6 99 (by decide +kernel) rfl
theorem lmX12_227 : Cond.methodLink RX12 227 yX12_must ∈ TT := TT_6 103 (by decide +kernel) rfl
theorem lmX12_241 : Cond.methodLink RX12 241 yX12_number ∈ TT := TT_6 107 (by decide +kernel) rfl
theorem lmL_82 : Cond.methodLink RL 82 yX12_fault ∈ TT := TT_6 112 (by decide +kernel) rfl
theorem lmL_86 : Cond.methodLink RL 86 yX12_broken ∈ TT := TT_6 116 (by decide +kernel) rfl
theorem lmX12_253 : Cond.methodLink RX12 253 yX12_isBroken ∈ TT := TT_6 120 (by decide +kernel) rfl
theorem lmL_90 : Cond.methodLink RL 90 yX12_vessel ∈ TT := TT_6 124 (by decide +kernel) rfl
theorem lmL_94 : Cond.methodLink RL 94 yX12_like ∈ TT := TT_6 129 (by decide +kernel) rfl
theorem lmX12_261 : Cond.methodLink RX12 261 yX12_isVessel ∈ TT := TT_6 133 (by decide +kernel) rfl
theorem lmX12_264 : Cond.methodLink RX12 264 yX12_likeness ∈ TT := TT_6 137 (by decide +kernel) rfl
theorem lmL_98 : Cond.methodLink RL 98 yX12_tell ∈ TT := TT_6 141 (by decide +kernel) rfl
theorem lmL_102 : Cond.methodLink RL 102 yX12_of ∈ TT := TT_6 147 (by decide +kernel) rfl
theorem lmX12_274 : Cond.methodLink RX12 274 yX12_shopOf ∈ TT := TT_6 151 (by decide +kernel) rfl
theorem lmL_106 : Cond.methodLink RL 106 yX12_by ∈ TT := TT_6 155 (by decide +kernel) rfl
theorem lmL_110 : Cond.methodLink RL 110 yX12_count ∈ TT := TT_6 159 (by decide +kernel) rfl
theorem lmL_114 : Cond.methodLink RL 114 yX12_status ∈ TT := TT_6 163 (by decide +kernel) rfl
theorem lcJ6_265 : Cond.constant RJ6 265 1431655765 ∈ TT := TT_3 48 (by decide +kernel) rfl
theorem lcJ6_266 : Cond.constant RJ6 266 858993459 ∈ TT := TT_3 49 (by decide +kernel) rfl
theorem lcJ6_267 : Cond.constant RJ6 267 252645135 ∈ TT := TT_3 50 (by decide +kernel) rfl
theorem lcX11_232 : Cond.constant RX11 232 99999999 ∈ TT := TT_4 201 (by decide +kernel) rfl
theorem lcX12_109 : Cond.constantLong RX12 109 2 ∈ TT := TT_5 186 (by decide +kernel) rfl
theorem lcX12_111 : Cond.constantLong RX12 111 12 ∈ TT := TT_5 187 (by decide +kernel) rfl
theorem lcX12_120 : Cond.constantLong RX12 120 4 ∈ TT := TT_5 203 (by decide +kernel) rfl
theorem lcX12_122 : Cond.constantLong RX12 122 10 ∈ TT := TT_5 204 (by decide +kernel) rfl
theorem lcX12_124 : Cond.constantLong RX12 124 17 ∈ TT := TT_5 205 (by decide +kernel) rfl
theorem lcX12_159 : Cond.constantLong RX12 159 6 ∈ TT := TT_6 18 (by decide +kernel) rfl
theorem lcX12_176 : Cond.constantLong RX12 176 1000 ∈ TT := TT_6 39 (by decide +kernel) rfl
theorem lcX12_178 : Cond.constantLong RX12 178 40 ∈ TT := TT_6 40 (by decide +kernel) rfl
theorem lcX12_212 : Cond.constantLong RX12 212 32 ∈ TT := TT_6 87 (by decide +kernel) rfl
theorem lcX12_214 : Cond.constantLong RX12 214 96 ∈ TT := TT_6 88 (by decide +kernel) rfl
theorem lcX12_216 : Cond.constantLong RX12 216 (-1) ∈ TT := TT_6 89 (by decide +kernel) rfl
theorem lcX12_218 : Cond.constantLong RX12 218 48 ∈ TT := TT_6 90 (by decide +kernel) rfl
theorem lcX12_248 : Cond.constantLong RX12 248 59 ∈ TT := TT_6 111 (by decide +kernel) rfl
theorem lcX12_259 : Cond.constantLong RX12 259 99999999 ∈ TT := TT_6 128 (by decide +kernel) rfl
theorem lcX12_267 : Cond.constantLong RX12 267 7 ∈ TT := TT_6 145 (by decide +kernel) rfl
theorem lcX12_269 : Cond.constantLong RX12 269 3000 ∈ TT := TT_6 146 (by decide +kernel) rfl
theorem ceX0_clear : gCe yX0_clear cX0_clear 1 0 none ∧ Cond.instanceMethod yX0_clear ∈ TT ∧ Cond.selects yX0_clear.cls yX0_clear yX0_clear ∈ TT := ⟨⟨TT_3 213 (by decide +kernel) rfl, TT_1 6 (by decide +kernel) rfl, by decide, by decide +kernel⟩, TT_3 211 (by decide +kernel) rfl, TT_3 212 (by decide +kernel) rfl⟩
theorem ceX0_put : gCe yX0_put cX0_put 3 2 none ∧ Cond.instanceMethod yX0_put ∈ TT ∧ Cond.selects yX0_put.cls yX0_put yX0_put ∈ TT := ⟨⟨TT_3 174 (by decide +kernel) rfl, TT_1 6 (by decide +kernel) rfl, by decide, by decide +kernel⟩, TT_3 172 (by decide +kernel) rfl, TT_3 173 (by decide +kernel) rfl⟩
theorem ceX0_isThere : gCe yX0_isThere cX0_isThere 1 0 (some .boolean) ∧ Cond.instanceMethod yX0_isThere ∈ TT ∧ Cond.selects yX0_isThere.cls yX0_isThere yX0_isThere ∈ TT := ⟨⟨TT_3 186 (by decide +kernel) rfl, TT_1 6 (by decide +kernel) rfl, by decide, by decide +kernel⟩, TT_3 184 (by decide +kernel) rfl, TT_3 185 (by decide +kernel) rfl⟩
theorem ceX0_unitsOf : gCe yX0_unitsOf cX0_unitsOf 2 1 (some .int) ∧ Cond.instanceMethod yX0_unitsOf ∈ TT ∧ Cond.selects yX0_unitsOf.cls yX0_unitsOf yX0_unitsOf ∈ TT := ⟨⟨TT_3 196 (by decide +kernel) rfl, TT_1 6 (by decide +kernel) rfl, by decide, by decide +kernel⟩, TT_3 194 (by decide +kernel) rfl, TT_3 195 (by decide +kernel) rfl⟩
theorem ceX0_total : gCe yX0_total cX0_total 3 0 (some .int) ∧ Cond.instanceMethod yX0_total ∈ TT ∧ Cond.selects yX0_total.cls yX0_total yX0_total ∈ TT := ⟨⟨TT_3 190 (by decide +kernel) rfl, TT_1 6 (by decide +kernel) rfl, by decide, by decide +kernel⟩, TT_3 188 (by decide +kernel) rfl, TT_3 189 (by decide +kernel) rfl⟩
theorem ceX0_tin : gCe yX0_tin cX0_tin 3 0 (some .int) ∧ Cond.instanceMethod yX0_tin ∈ TT ∧ Cond.selects yX0_tin.cls yX0_tin yX0_tin ∈ TT := ⟨⟨TT_4 166 (by decide +kernel) rfl, TT_1 6 (by decide +kernel) rfl, by decide, by decide +kernel⟩, TT_4 164 (by decide +kernel) rfl, TT_4 165 (by decide +kernel) rfl⟩
theorem ceX0_lead : gCe yX0_lead cX0_lead 3 0 (some .int) ∧ Cond.instanceMethod yX0_lead ∈ TT ∧ Cond.selects yX0_lead.cls yX0_lead yX0_lead ∈ TT := ⟨⟨TT_4 176 (by decide +kernel) rfl, TT_1 6 (by decide +kernel) rfl, by decide, by decide +kernel⟩, TT_4 174 (by decide +kernel) rfl, TT_4 175 (by decide +kernel) rfl⟩
theorem ceX0_copper : gCe yX0_copper cX0_copper 1 0 (some .int) ∧ Cond.instanceMethod yX0_copper ∈ TT ∧ Cond.selects yX0_copper.cls yX0_copper yX0_copper ∈ TT := ⟨⟨TT_4 181 (by decide +kernel) rfl, TT_1 6 (by decide +kernel) rfl, by decide, by decide +kernel⟩, TT_4 179 (by decide +kernel) rfl, TT_4 180 (by decide +kernel) rfl⟩
theorem ceX0_takeFromLots : gCe yX0_takeFromLots cX0_takeFromLots 2 0 (some .int) ∧ Cond.instanceMethod yX0_takeFromLots ∈ TT ∧ Cond.selects yX0_takeFromLots.cls yX0_takeFromLots yX0_takeFromLots ∈ TT := ⟨⟨TT_3 204 (by decide +kernel) rfl, TT_1 6 (by decide +kernel) rfl, by decide, by decide +kernel⟩, TT_3 202 (by decide +kernel) rfl, TT_3 203 (by decide +kernel) rfl⟩
theorem ceX1_refresh : gCe yX1_refresh cX1_refresh 1 0 none ∧ Cond.instanceMethod yX1_refresh ∈ TT ∧ Cond.selects yX1_refresh.cls yX1_refresh yX1_refresh ∈ TT := ⟨⟨TT_2 133 (by decide +kernel) rfl, TT_1 3 (by decide +kernel) rfl, by decide, by decide +kernel⟩, TT_2 131 (by decide +kernel) rfl, TT_2 132 (by decide +kernel) rfl⟩
theorem ceX1_fateAt : gCe yX1_fateAt cX1_fateAt 3 2 (some .int) ∧ Cond.instanceMethod yX1_fateAt ∈ TT ∧ Cond.selects yX1_fateAt.cls yX1_fateAt yX1_fateAt ∈ TT := ⟨⟨TT_2 191 (by decide +kernel) rfl, TT_1 3 (by decide +kernel) rfl, by decide, by decide +kernel⟩, TT_2 189 (by decide +kernel) rfl, TT_2 190 (by decide +kernel) rfl⟩
theorem ceX1_howMany : gCe yX1_howMany cX1_howMany 5 1 (some .int) ∧ Cond.instanceMethod yX1_howMany ∈ TT ∧ Cond.selects yX1_howMany.cls yX1_howMany yX1_howMany ∈ TT := ⟨⟨TT_2 212 (by decide +kernel) rfl, TT_1 3 (by decide +kernel) rfl, by decide, by decide +kernel⟩, TT_2 210 (by decide +kernel) rfl, TT_2 211 (by decide +kernel) rfl⟩
theorem ceX1_howManySpacers : gCe yX1_howManySpacers cX1_howManySpacers 1 0 (some .int) ∧ Cond.instanceMethod yX1_howManySpacers ∈ TT ∧ Cond.selects yX1_howManySpacers.cls yX1_howManySpacers yX1_howManySpacers ∈ TT := ⟨⟨TT_4 191 (by decide +kernel) rfl, TT_1 3 (by decide +kernel) rfl, by decide, by decide +kernel⟩, TT_4 189 (by decide +kernel) rfl, TT_4 190 (by decide +kernel) rfl⟩
theorem ceX1_howManyCores : gCe yX1_howManyCores cX1_howManyCores 1 0 (some .int) ∧ Cond.instanceMethod yX1_howManyCores ∈ TT ∧ Cond.selects yX1_howManyCores.cls yX1_howManyCores yX1_howManyCores ∈ TT := ⟨⟨TT_4 196 (by decide +kernel) rfl, TT_1 3 (by decide +kernel) rfl, by decide, by decide +kernel⟩, TT_4 194 (by decide +kernel) rfl, TT_4 195 (by decide +kernel) rfl⟩
theorem ceX1_canMend : gCe yX1_canMend cX1_canMend 5 2 (some .boolean) ∧ Cond.instanceMethod yX1_canMend ∈ TT ∧ Cond.selects yX1_canMend.cls yX1_canMend yX1_canMend ∈ TT := ⟨⟨TT_2 200 (by decide +kernel) rfl, TT_1 3 (by decide +kernel) rfl, by decide, by decide +kernel⟩, TT_2 198 (by decide +kernel) rfl, TT_2 199 (by decide +kernel) rfl⟩
theorem ceX1_mend : gCe yX1_mend cX1_mend 3 2 (some .int) ∧ Cond.instanceMethod yX1_mend ∈ TT ∧ Cond.selects yX1_mend.cls yX1_mend yX1_mend ∈ TT := ⟨⟨TT_2 208 (by decide +kernel) rfl, TT_1 3 (by decide +kernel) rfl, by decide, by decide +kernel⟩, TT_2 206 (by decide +kernel) rfl, TT_2 207 (by decide +kernel) rfl⟩
theorem ceX1_wallAt : gCe yX1_wallAt cX1_wallAt 5 2 (some .int) ∧ Cond.instanceMethod yX1_wallAt ∈ TT ∧ Cond.selects yX1_wallAt.cls yX1_wallAt yX1_wallAt ∈ TT := ⟨⟨TT_2 224 (by decide +kernel) rfl, TT_1 3 (by decide +kernel) rfl, by decide, by decide +kernel⟩, TT_2 222 (by decide +kernel) rfl, TT_2 223 (by decide +kernel) rfl⟩
theorem ceX1_leastWall : gCe yX1_leastWall cX1_leastWall 5 0 (some .int) ∧ Cond.instanceMethod yX1_leastWall ∈ TT ∧ Cond.selects yX1_leastWall.cls yX1_leastWall yX1_leastWall ∈ TT := ⟨⟨TT_2 220 (by decide +kernel) rfl, TT_1 3 (by decide +kernel) rfl, by decide, by decide +kernel⟩, TT_2 218 (by decide +kernel) rfl, TT_2 219 (by decide +kernel) rfl⟩
theorem ceX1_isMetal : gCe yX1_isMetal cX1_isMetal 4 2 (some .boolean) ∧ Cond.instanceMethod yX1_isMetal ∈ TT ∧ Cond.selects yX1_isMetal.cls yX1_isMetal yX1_isMetal ∈ TT := ⟨⟨TT_2 204 (by decide +kernel) rfl, TT_1 3 (by decide +kernel) rfl, by decide, by decide +kernel⟩, TT_2 203 (by decide +kernel) rfl, TT_0 9 (by decide +kernel) rfl⟩
theorem ceX1_stretch : gCe yX1_stretch cX1_stretch 6 3 (some .int) ∧ Cond.instanceMethod yX1_stretch ∈ TT ∧ Cond.selects yX1_stretch.cls yX1_stretch yX1_stretch ∈ TT := ⟨⟨TT_2 228 (by decide +kernel) rfl, TT_1 3 (by decide +kernel) rfl, by decide, by decide +kernel⟩, TT_2 227 (by decide +kernel) rfl, TT_0 10 (by decide +kernel) rfl⟩
theorem ceX1_letMetalCome : gCe yX1_letMetalCome cX1_letMetalCome 3 0 none ∧ Cond.instanceMethod yX1_letMetalCome ∈ TT ∧ Cond.selects yX1_letMetalCome.cls yX1_letMetalCome yX1_letMetalCome ∈ TT := ⟨⟨TT_2 141 (by decide +kernel) rfl, TT_1 3 (by decide +kernel) rfl, by decide, by decide +kernel⟩, TT_2 140 (by decide +kernel) rfl, TT_0 1 (by decide +kernel) rfl⟩
theorem ceX1_fateWithAir : gCe yX1_fateWithAir cX1_fateWithAir 3 2 (some .int) ∧ Cond.instanceMethod yX1_fateWithAir ∈ TT ∧ Cond.selects yX1_fateWithAir.cls yX1_fateWithAir yX1_fateWithAir ∈ TT := ⟨⟨TT_2 179 (by decide +kernel) rfl, TT_1 3 (by decide +kernel) rfl, by decide, by decide +kernel⟩, TT_2 178 (by decide +kernel) rfl, TT_0 6 (by decide +kernel) rfl⟩
theorem ceX1_letAirOut : gCe yX1_letAirOut cX1_letAirOut 4 0 none ∧ Cond.instanceMethod yX1_letAirOut ∈ TT ∧ Cond.selects yX1_letAirOut.cls yX1_letAirOut yX1_letAirOut ∈ TT := ⟨⟨TT_2 183 (by decide +kernel) rfl, TT_1 3 (by decide +kernel) rfl, by decide, by decide +kernel⟩, TT_2 182 (by decide +kernel) rfl, TT_0 7 (by decide +kernel) rfl⟩
theorem ceX1_castRow : gCe yX1_castRow cX1_castRow 3 1 none ∧ Cond.instanceMethod yX1_castRow ∈ TT ∧ Cond.selects yX1_castRow.cls yX1_castRow yX1_castRow ∈ TT := ⟨⟨TT_2 187 (by decide +kernel) rfl, TT_1 3 (by decide +kernel) rfl, by decide, by decide +kernel⟩, TT_2 186 (by decide +kernel) rfl, TT_0 8 (by decide +kernel) rfl⟩
theorem ceX1_startFlood : gCe yX1_startFlood cX1_startFlood 2 0 none ∧ Cond.instanceMethod yX1_startFlood ∈ TT ∧ Cond.selects yX1_startFlood.cls yX1_startFlood yX1_startFlood ∈ TT := ⟨⟨TT_2 145 (by decide +kernel) rfl, TT_1 3 (by decide +kernel) rfl, by decide, by decide +kernel⟩, TT_2 144 (by decide +kernel) rfl, TT_0 2 (by decide +kernel) rfl⟩
theorem ceX1_isReached : gCe yX1_isReached cX1_isReached 3 2 (some .boolean) ∧ Cond.instanceMethod yX1_isReached ∈ TT ∧ Cond.selects yX1_isReached.cls yX1_isReached yX1_isReached ∈ TT := ⟨⟨TT_2 166 (by decide +kernel) rfl, TT_1 3 (by decide +kernel) rfl, by decide, by decide +kernel⟩, TT_2 165 (by decide +kernel) rfl, TT_0 4 (by decide +kernel) rfl⟩
theorem ceX1_reach : gCe yX1_reach cX1_reach 3 2 none ∧ Cond.instanceMethod yX1_reach ∈ TT ∧ Cond.selects yX1_reach.cls yX1_reach yX1_reach ∈ TT := ⟨⟨TT_2 158 (by decide +kernel) rfl, TT_1 3 (by decide +kernel) rfl, by decide, by decide +kernel⟩, TT_2 157 (by decide +kernel) rfl, TT_0 3 (by decide +kernel) rfl⟩
theorem ceX1_flood : gCe yX1_flood cX1_flood 5 1 none ∧ Cond.instanceMethod yX1_flood ∈ TT ∧ Cond.selects yX1_flood.cls yX1_flood yX1_flood ∈ TT := ⟨⟨TT_2 171 (by decide +kernel) rfl, TT_1 3 (by decide +kernel) rfl, by decide, by decide +kernel⟩, TT_2 170 (by decide +kernel) rfl, TT_0 5 (by decide +kernel) rfl⟩
theorem ceX2_width : gCe yX2_width cX2_width 1 0 (some .int) ∧ Cond.instanceMethod yX2_width ∈ TT ∧ Cond.selects yX2_width.cls yX2_width yX2_width ∈ TT := ⟨⟨TT_2 153 (by decide +kernel) rfl, TT_1 2 (by decide +kernel) rfl, by decide, by decide +kernel⟩, TT_2 151 (by decide +kernel) rfl, TT_2 152 (by decide +kernel) rfl⟩
theorem ceX2_height : gCe yX2_height cX2_height 1 0 (some .int) ∧ Cond.instanceMethod yX2_height ∈ TT ∧ Cond.selects yX2_height.cls yX2_height yX2_height ∈ TT := ⟨⟨TT_2 149 (by decide +kernel) rfl, TT_1 2 (by decide +kernel) rfl, by decide, by decide +kernel⟩, TT_2 147 (by decide +kernel) rfl, TT_2 148 (by decide +kernel) rfl⟩
theorem ceX2_edition : gCe yX2_edition cX2_edition 1 0 (some .int) ∧ Cond.instanceMethod yX2_edition ∈ TT ∧ Cond.selects yX2_edition.cls yX2_edition yX2_edition ∈ TT := ⟨⟨TT_2 137 (by decide +kernel) rfl, TT_1 2 (by decide +kernel) rfl, by decide, by decide +kernel⟩, TT_2 135 (by decide +kernel) rfl, TT_2 136 (by decide +kernel) rfl⟩
theorem ceX2_has : gCe yX2_has cX2_has 3 2 (some .boolean) ∧ Cond.instanceMethod yX2_has ∈ TT ∧ Cond.selects yX2_has.cls yX2_has yX2_has ∈ TT := ⟨⟨TT_2 116 (by decide +kernel) rfl, TT_1 2 (by decide +kernel) rfl, by decide, by decide +kernel⟩, TT_2 114 (by decide +kernel) rfl, TT_2 115 (by decide +kernel) rfl⟩
theorem ceX2_sortAt : gCe yX2_sortAt cX2_sortAt 3 2 (some .int) ∧ Cond.instanceMethod yX2_sortAt ∈ TT ∧ Cond.selects yX2_sortAt.cls yX2_sortAt yX2_sortAt ∈ TT := ⟨⟨TT_2 129 (by decide +kernel) rfl, TT_1 2 (by decide +kernel) rfl, by decide, by decide +kernel⟩, TT_2 127 (by decide +kernel) rfl, TT_2 128 (by decide +kernel) rfl⟩
theorem ceX2_isHollow : gCe yX2_isHollow cX2_isHollow 4 2 (some .boolean) ∧ Cond.instanceMethod yX2_isHollow ∈ TT ∧ Cond.selects yX2_isHollow.cls yX2_isHollow yX2_isHollow ∈ TT := ⟨⟨TT_2 162 (by decide +kernel) rfl, TT_1 2 (by decide +kernel) rfl, by decide, by decide +kernel⟩, TT_2 160 (by decide +kernel) rfl, TT_2 161 (by decide +kernel) rfl⟩
theorem ceX2_resize : gCe yX2_resize cX2_resize 3 2 none ∧ Cond.instanceMethod yX2_resize ∈ TT ∧ Cond.selects yX2_resize.cls yX2_resize yX2_resize ∈ TT := ⟨⟨TT_2 99 (by decide +kernel) rfl, TT_1 2 (by decide +kernel) rfl, by decide, by decide +kernel⟩, TT_2 97 (by decide +kernel) rfl, TT_2 98 (by decide +kernel) rfl⟩
theorem ceX2_fill : gCe yX2_fill cX2_fill 9 5 (some .int) ∧ Cond.instanceMethod yX2_fill ∈ TT ∧ Cond.selects yX2_fill.cls yX2_fill yX2_fill ∈ TT := ⟨⟨TT_2 120 (by decide +kernel) rfl, TT_1 2 (by decide +kernel) rfl, by decide, by decide +kernel⟩, TT_2 118 (by decide +kernel) rfl, TT_2 119 (by decide +kernel) rfl⟩
theorem ceX2_howMany : gCe yX2_howMany cX2_howMany 7 2 (some .int) ∧ Cond.instanceMethod yX2_howMany ∈ TT ∧ Cond.selects yX2_howMany.cls yX2_howMany yX2_howMany ∈ TT := ⟨⟨TT_2 239 (by decide +kernel) rfl, TT_1 2 (by decide +kernel) rfl, by decide, by decide +kernel⟩, TT_2 237 (by decide +kernel) rfl, TT_2 238 (by decide +kernel) rfl⟩
theorem ceX3_isBroken : gCe yX3_isBroken cX3_isBroken 4 3 (some .boolean) ∧ Cond.instanceMethod yX3_isBroken ∈ TT ∧ Cond.selects yX3_isBroken.cls yX3_isBroken yX3_isBroken ∈ TT := ⟨⟨TT_4 162 (by decide +kernel) rfl, TT_1 10 (by decide +kernel) rfl, by decide, by decide +kernel⟩, TT_4 160 (by decide +kernel) rfl, TT_4 161 (by decide +kernel) rfl⟩
theorem ceX3_isOutside : gCe yX3_isOutside cX3_isOutside 5 3 (some .boolean) ∧ Cond.instanceMethod yX3_isOutside ∈ TT ∧ Cond.selects yX3_isOutside.cls yX3_isOutside yX3_isOutside ∈ TT := ⟨⟨TT_4 171 (by decide +kernel) rfl, TT_1 10 (by decide +kernel) rfl, by decide, by decide +kernel⟩, TT_4 170 (by decide +kernel) rfl, TT_0 33 (by decide +kernel) rfl⟩
theorem ceX4_length : gCe yX4_length cX4_length 1 0 (some .int) ∧ Cond.instanceMethod yX4_length ∈ TT ∧ Cond.selects yX4_length.cls yX4_length yX4_length ∈ TT := ⟨⟨TT_3 100 (by decide +kernel) rfl, TT_1 5 (by decide +kernel) rfl, by decide, by decide +kernel⟩, TT_3 98 (by decide +kernel) rfl, TT_3 99 (by decide +kernel) rfl⟩
theorem ceX4_isFull : gCe yX4_isFull cX4_isFull 1 0 (some .boolean) ∧ Cond.instanceMethod yX4_isFull ∈ TT ∧ Cond.selects yX4_isFull.cls yX4_isFull yX4_isFull ∈ TT := ⟨⟨TT_3 79 (by decide +kernel) rfl, TT_1 5 (by decide +kernel) rfl, by decide, by decide +kernel⟩, TT_3 77 (by decide +kernel) rfl, TT_3 78 (by decide +kernel) rfl⟩
theorem ceX4_has : gCe yX4_has cX4_has 2 1 (some .boolean) ∧ Cond.instanceMethod yX4_has ∈ TT ∧ Cond.selects yX4_has.cls yX4_has yX4_has ∈ TT := ⟨⟨TT_3 116 (by decide +kernel) rfl, TT_1 5 (by decide +kernel) rfl, by decide, by decide +kernel⟩, TT_3 114 (by decide +kernel) rfl, TT_3 115 (by decide +kernel) rfl⟩
theorem ceX4_add : gCe yX4_add cX4_add 5 4 (some .int) ∧ Cond.instanceMethod yX4_add ∈ TT ∧ Cond.selects yX4_add.cls yX4_add yX4_add ∈ TT := ⟨⟨TT_3 83 (by decide +kernel) rfl, TT_1 5 (by decide +kernel) rfl, by decide, by decide +kernel⟩, TT_3 81 (by decide +kernel) rfl, TT_3 82 (by decide +kernel) rfl⟩
theorem ceX4_tinAt : gCe yX4_tinAt cX4_tinAt 2 1 (some .int) ∧ Cond.instanceMethod yX4_tinAt ∈ TT ∧ Cond.selects yX4_tinAt.cls yX4_tinAt yX4_tinAt ∈ TT := ⟨⟨TT_3 120 (by decide +kernel) rfl, TT_1 5 (by decide +kernel) rfl, by decide, by decide +kernel⟩, TT_3 118 (by decide +kernel) rfl, TT_3 119 (by decide +kernel) rfl⟩
theorem ceX4_leadAt : gCe yX4_leadAt cX4_leadAt 2 1 (some .int) ∧ Cond.instanceMethod yX4_leadAt ∈ TT ∧ Cond.selects yX4_leadAt.cls yX4_leadAt yX4_leadAt ∈ TT := ⟨⟨TT_3 124 (by decide +kernel) rfl, TT_1 5 (by decide +kernel) rfl, by decide, by decide +kernel⟩, TT_3 122 (by decide +kernel) rfl, TT_3 123 (by decide +kernel) rfl⟩
theorem ceX4_priceAt : gCe yX4_priceAt cX4_priceAt 2 1 (some .int) ∧ Cond.instanceMethod yX4_priceAt ∈ TT ∧ Cond.selects yX4_priceAt.cls yX4_priceAt yX4_priceAt ∈ TT := ⟨⟨TT_3 112 (by decide +kernel) rfl, TT_1 5 (by decide +kernel) rfl, by decide, by decide +kernel⟩, TT_3 110 (by decide +kernel) rfl, TT_3 111 (by decide +kernel) rfl⟩
theorem ceX4_unitsAt : gCe yX4_unitsAt cX4_unitsAt 2 1 (some .int) ∧ Cond.instanceMethod yX4_unitsAt ∈ TT ∧ Cond.selects yX4_unitsAt.cls yX4_unitsAt yX4_unitsAt ∈ TT := ⟨⟨TT_3 132 (by decide +kernel) rfl, TT_1 5 (by decide +kernel) rfl, by decide, by decide +kernel⟩, TT_3 130 (by decide +kernel) rfl, TT_3 131 (by decide +kernel) rfl⟩
theorem ceX4_take : gCe yX4_take cX4_take 3 2 none ∧ Cond.instanceMethod yX4_take ∈ TT ∧ Cond.selects yX4_take.cls yX4_take yX4_take ∈ TT := ⟨⟨TT_3 209 (by decide +kernel) rfl, TT_1 5 (by decide +kernel) rfl, by decide, by decide +kernel⟩, TT_3 207 (by decide +kernel) rfl, TT_3 208 (by decide +kernel) rfl⟩
theorem ceX5_find : gCe yX5_find cX5_find 5 4 (some .boolean) ∧ Cond.instanceMethod yX5_find ∈ TT ∧ Cond.selects yX5_find.cls yX5_find yX5_find ∈ TT := ⟨⟨TT_3 92 (by decide +kernel) rfl, TT_1 8 (by decide +kernel) rfl, by decide, by decide +kernel⟩, TT_3 90 (by decide +kernel) rfl, TT_3 91 (by decide +kernel) rfl⟩
theorem ceX5_price : gCe yX5_price cX5_price 1 0 (some .int) ∧ Cond.instanceMethod yX5_price ∈ TT ∧ Cond.selects yX5_price.cls yX5_price yX5_price ∈ TT := ⟨⟨TT_3 178 (by decide +kernel) rfl, TT_1 8 (by decide +kernel) rfl, by decide, by decide +kernel⟩, TT_3 176 (by decide +kernel) rfl, TT_3 177 (by decide +kernel) rfl⟩
theorem ceX5_unitsOf : gCe yX5_unitsOf cX5_unitsOf 2 1 (some .int) ∧ Cond.instanceMethod yX5_unitsOf ∈ TT ∧ Cond.selects yX5_unitsOf.cls yX5_unitsOf yX5_unitsOf ∈ TT := ⟨⟨TT_3 170 (by decide +kernel) rfl, TT_1 8 (by decide +kernel) rfl, by decide, by decide +kernel⟩, TT_3 168 (by decide +kernel) rfl, TT_3 169 (by decide +kernel) rfl⟩
theorem ceX5_lastOfLots : gCe yX5_lastOfLots cX5_lastOfLots 1 0 (some .int) ∧ Cond.instanceMethod yX5_lastOfLots ∈ TT ∧ Cond.selects yX5_lastOfLots.cls yX5_lastOfLots yX5_lastOfLots ∈ TT := ⟨⟨TT_3 96 (by decide +kernel) rfl, TT_1 8 (by decide +kernel) rfl, by decide, by decide +kernel⟩, TT_3 95 (by decide +kernel) rfl, TT_0 16 (by decide +kernel) rfl⟩
theorem ceX5_weigh : gCe yX5_weigh cX5_weigh 2 0 none ∧ Cond.instanceMethod yX5_weigh ∈ TT ∧ Cond.selects yX5_weigh.cls yX5_weigh yX5_weigh ∈ TT := ⟨⟨TT_3 108 (by decide +kernel) rfl, TT_1 8 (by decide +kernel) rfl, by decide, by decide +kernel⟩, TT_3 107 (by decide +kernel) rfl, TT_0 17 (by decide +kernel) rfl⟩
theorem ceX5_foresee : gCe yX5_foresee cX5_foresee 4 1 none ∧ Cond.instanceMethod yX5_foresee ∈ TT ∧ Cond.selects yX5_foresee.cls yX5_foresee yX5_foresee ∈ TT := ⟨⟨TT_3 128 (by decide +kernel) rfl, TT_1 8 (by decide +kernel) rfl, by decide, by decide +kernel⟩, TT_3 127 (by decide +kernel) rfl, TT_0 18 (by decide +kernel) rfl⟩
theorem ceX5_foreseeFrom : gCe yX5_foreseeFrom cX5_foreseeFrom 11 3 none ∧ Cond.instanceMethod yX5_foreseeFrom ∈ TT ∧ Cond.selects yX5_foreseeFrom.cls yX5_foreseeFrom yX5_foreseeFrom ∈ TT := ⟨⟨TT_3 136 (by decide +kernel) rfl, TT_1 8 (by decide +kernel) rfl, by decide, by decide +kernel⟩, TT_3 135 (by decide +kernel) rfl, TT_0 19 (by decide +kernel) rfl⟩
theorem ceX5_search : gCe yX5_search cX5_search 5 2 none ∧ Cond.instanceMethod yX5_search ∈ TT ∧ Cond.selects yX5_search.cls yX5_search yX5_search ∈ TT := ⟨⟨TT_3 140 (by decide +kernel) rfl, TT_1 8 (by decide +kernel) rfl, by decide, by decide +kernel⟩, TT_3 139 (by decide +kernel) rfl, TT_0 20 (by decide +kernel) rfl⟩
theorem ceX5_goOn : gCe yX5_goOn cX5_goOn 4 3 none ∧ Cond.instanceMethod yX5_goOn ∈ TT ∧ Cond.selects yX5_goOn.cls yX5_goOn yX5_goOn ∈ TT := ⟨⟨TT_3 162 (by decide +kernel) rfl, TT_1 8 (by decide +kernel) rfl, by decide, by decide +kernel⟩, TT_3 161 (by decide +kernel) rfl, TT_0 24 (by decide +kernel) rfl⟩
theorem ceX5_staysBelow : gCe yX5_staysBelow cX5_staysBelow 6 3 (some .boolean) ∧ Cond.instanceMethod yX5_staysBelow ∈ TT ∧ Cond.selects yX5_staysBelow.cls yX5_staysBelow yX5_staysBelow ∈ TT := ⟨⟨TT_3 166 (by decide +kernel) rfl, TT_1 8 (by decide +kernel) rfl, by decide, by decide +kernel⟩, TT_3 165 (by decide +kernel) rfl, TT_0 25 (by decide +kernel) rfl⟩
theorem ceX5_shareOut : gCe yX5_shareOut cX5_shareOut 4 1 none ∧ Cond.instanceMethod yX5_shareOut ∈ TT ∧ Cond.selects yX5_shareOut.cls yX5_shareOut yX5_shareOut ∈ TT := ⟨⟨TT_3 144 (by decide +kernel) rfl, TT_1 8 (by decide +kernel) rfl, by decide, by decide +kernel⟩, TT_3 143 (by decide +kernel) rfl, TT_0 21 (by decide +kernel) rfl⟩
theorem ceX5_narrow : gCe yX5_narrow cX5_narrow 6 3 none ∧ Cond.instanceMethod yX5_narrow ∈ TT ∧ Cond.selects yX5_narrow.cls yX5_narrow yX5_narrow ∈ TT := ⟨⟨TT_3 148 (by decide +kernel) rfl, TT_1 8 (by decide +kernel) rfl, by decide, by decide +kernel⟩, TT_3 147 (by decide +kernel) rfl, TT_0 22 (by decide +kernel) rfl⟩
theorem ceX5_keepRow : gCe yX5_keepRow cX5_keepRow 2 0 none ∧ Cond.instanceMethod yX5_keepRow ∈ TT ∧ Cond.selects yX5_keepRow.cls yX5_keepRow yX5_keepRow ∈ TT := ⟨⟨TT_3 155 (by decide +kernel) rfl, TT_1 8 (by decide +kernel) rfl, by decide, by decide +kernel⟩, TT_3 154 (by decide +kernel) rfl, TT_0 23 (by decide +kernel) rfl⟩
theorem ceX6_length : gCe yX6_length cX6_length 1 0 (some .int) ∧ Cond.instanceMethod yX6_length ∈ TT ∧ Cond.selects yX6_length.cls yX6_length yX6_length ∈ TT := ⟨⟨TT_4 137 (by decide +kernel) rfl, TT_1 12 (by decide +kernel) rfl, by decide, by decide +kernel⟩, TT_4 135 (by decide +kernel) rfl, TT_4 136 (by decide +kernel) rfl⟩
theorem ceX6_clear : gCe yX6_clear cX6_clear 1 0 none ∧ Cond.instanceMethod yX6_clear ∈ TT ∧ Cond.selects yX6_clear.cls yX6_clear yX6_clear ∈ TT := ⟨⟨TT_4 11 (by decide +kernel) rfl, TT_1 12 (by decide +kernel) rfl, by decide, by decide +kernel⟩, TT_4 9 (by decide +kernel) rfl, TT_4 10 (by decide +kernel) rfl⟩
theorem ceX6_add : gCe yX6_add cX6_add 4 3 none ∧ Cond.instanceMethod yX6_add ∈ TT ∧ Cond.selects yX6_add.cls yX6_add yX6_add ∈ TT := ⟨⟨TT_4 132 (by decide +kernel) rfl, TT_1 12 (by decide +kernel) rfl, by decide, by decide +kernel⟩, TT_4 130 (by decide +kernel) rfl, TT_4 131 (by decide +kernel) rfl⟩
theorem ceX6_kindAt : gCe yX6_kindAt cX6_kindAt 2 1 (some .int) ∧ Cond.instanceMethod yX6_kindAt ∈ TT ∧ Cond.selects yX6_kindAt.cls yX6_kindAt yX6_kindAt ∈ TT := ⟨⟨TT_4 150 (by decide +kernel) rfl, TT_1 12 (by decide +kernel) rfl, by decide, by decide +kernel⟩, TT_4 148 (by decide +kernel) rfl, TT_4 149 (by decide +kernel) rfl⟩
theorem ceX6_firstAt : gCe yX6_firstAt cX6_firstAt 2 1 (some .int) ∧ Cond.instanceMethod yX6_firstAt ∈ TT ∧ Cond.selects yX6_firstAt.cls yX6_firstAt yX6_firstAt ∈ TT := ⟨⟨TT_4 154 (by decide +kernel) rfl, TT_1 12 (by decide +kernel) rfl, by decide, by decide +kernel⟩, TT_4 152 (by decide +kernel) rfl, TT_4 153 (by decide +kernel) rfl⟩
theorem ceX6_secondAt : gCe yX6_secondAt cX6_secondAt 2 1 (some .int) ∧ Cond.instanceMethod yX6_secondAt ∈ TT ∧ Cond.selects yX6_secondAt.cls yX6_secondAt yX6_secondAt ∈ TT := ⟨⟨TT_4 158 (by decide +kernel) rfl, TT_1 12 (by decide +kernel) rfl, by decide, by decide +kernel⟩, TT_4 156 (by decide +kernel) rfl, TT_4 157 (by decide +kernel) rfl⟩
theorem ceX7_read : gCe yX7_read cX7_read 3 1 (some .int) ∧ Cond.instanceMethod yX7_read ∈ TT ∧ Cond.selects yX7_read.cls yX7_read yX7_read ∈ TT := ⟨⟨TT_4 7 (by decide +kernel) rfl, TT_1 9 (by decide +kernel) rfl, by decide, by decide +kernel⟩, TT_4 5 (by decide +kernel) rfl, TT_4 6 (by decide +kernel) rfl⟩
theorem ceX7_readRule : gCe yX7_readRule cX7_readRule 7 1 (some .boolean) ∧ Cond.instanceMethod yX7_readRule ∈ TT ∧ Cond.selects yX7_readRule.cls yX7_readRule yX7_readRule ∈ TT := ⟨⟨TT_4 35 (by decide +kernel) rfl, TT_1 9 (by decide +kernel) rfl, by decide, by decide +kernel⟩, TT_4 34 (by decide +kernel) rfl, TT_0 28 (by decide +kernel) rfl⟩
theorem ceX7_kindHere : gCe yX7_kindHere cX7_kindHere 2 0 (some .int) ∧ Cond.instanceMethod yX7_kindHere ∈ TT ∧ Cond.selects yX7_kindHere.cls yX7_kindHere yX7_kindHere ∈ TT := ⟨⟨TT_4 39 (by decide +kernel) rfl, TT_1 9 (by decide +kernel) rfl, by decide, by decide +kernel⟩, TT_4 38 (by decide +kernel) rfl, TT_0 29 (by decide +kernel) rfl⟩
theorem ceX7_nameOf : gCe yX7_nameOf cX7_nameOf 1 1 (some (.object "java/lang/String")) ∧ Cond.static yX7_nameOf ∈ TT := ⟨⟨TT_4 42 (by decide +kernel) rfl, TT_1 9 (by decide +kernel) rfl, by decide, by decide +kernel⟩, TT_4 41 (by decide +kernel) rfl⟩
theorem ceX7_wordAhead : gCe yX7_wordAhead cX7_wordAhead 1 1 (some (.object "java/lang/String")) ∧ Cond.static yX7_wordAhead ∈ TT := ⟨⟨TT_4 106 (by decide +kernel) rfl, TT_1 9 (by decide +kernel) rfl, by decide, by decide +kernel⟩, TT_4 105 (by decide +kernel) rfl⟩
theorem ceX7_wordBetween : gCe yX7_wordBetween cX7_wordBetween 1 1 (some (.object "java/lang/String")) ∧ Cond.static yX7_wordBetween ∈ TT := ⟨⟨TT_4 126 (by decide +kernel) rfl, TT_1 9 (by decide +kernel) rfl, by decide, by decide +kernel⟩, TT_4 125 (by decide +kernel) rfl⟩
theorem ceX7_isOfMetal : gCe yX7_isOfMetal cX7_isOfMetal 1 1 (some .boolean) ∧ Cond.static yX7_isOfMetal ∈ TT := ⟨⟨TT_4 109 (by decide +kernel) rfl, TT_1 9 (by decide +kernel) rfl, by decide, by decide +kernel⟩, TT_4 108 (by decide +kernel) rfl⟩
theorem ceX7_skipWord : gCe yX7_skipWord cX7_skipWord 2 1 (some .boolean) ∧ Cond.instanceMethod yX7_skipWord ∈ TT ∧ Cond.selects yX7_skipWord.cls yX7_skipWord yX7_skipWord ∈ TT := ⟨⟨TT_4 119 (by decide +kernel) rfl, TT_1 9 (by decide +kernel) rfl, by decide, by decide +kernel⟩, TT_4 118 (by decide +kernel) rfl, TT_0 31 (by decide +kernel) rfl⟩
theorem ceX7_readNumber : gCe yX7_readNumber cX7_readNumber 4 1 (some .int) ∧ Cond.instanceMethod yX7_readNumber ∈ TT ∧ Cond.selects yX7_readNumber.cls yX7_readNumber yX7_readNumber ∈ TT := ⟨⟨TT_4 123 (by decide +kernel) rfl, TT_1 9 (by decide +kernel) rfl, by decide, by decide +kernel⟩, TT_4 122 (by decide +kernel) rfl, TT_0 32 (by decide +kernel) rfl⟩
theorem ceX7_isWord : gCe yX7_isWord cX7_isWord 3 1 (some .boolean) ∧ Cond.instanceMethod yX7_isWord ∈ TT ∧ Cond.selects yX7_isWord.cls yX7_isWord yX7_isWord ∈ TT := ⟨⟨TT_4 55 (by decide +kernel) rfl, TT_1 9 (by decide +kernel) rfl, by decide, by decide +kernel⟩, TT_4 54 (by decide +kernel) rfl, TT_0 30 (by decide +kernel) rfl⟩
theorem ceX7_isAtEnd : gCe yX7_isAtEnd cX7_isAtEnd 1 0 (some .boolean) ∧ Cond.instanceMethod yX7_isAtEnd ∈ TT ∧ Cond.selects yX7_isAtEnd.cls yX7_isAtEnd yX7_isAtEnd ∈ TT := ⟨⟨TT_4 31 (by decide +kernel) rfl, TT_1 9 (by decide +kernel) rfl, by decide, by decide +kernel⟩, TT_4 30 (by decide +kernel) rfl, TT_0 27 (by decide +kernel) rfl⟩
theorem ceX7_advance : gCe yX7_advance cX7_advance 3 0 none ∧ Cond.instanceMethod yX7_advance ∈ TT ∧ Cond.selects yX7_advance.cls yX7_advance yX7_advance ∈ TT := ⟨⟨TT_4 15 (by decide +kernel) rfl, TT_1 9 (by decide +kernel) rfl, by decide, by decide +kernel⟩, TT_4 14 (by decide +kernel) rfl, TT_0 26 (by decide +kernel) rfl⟩
theorem ceX7_isLetter : gCe yX7_isLetter cX7_isLetter 1 1 (some .boolean) ∧ Cond.static yX7_isLetter ∈ TT := ⟨⟨TT_4 24 (by decide +kernel) rfl, TT_1 9 (by decide +kernel) rfl, by decide, by decide +kernel⟩, TT_4 23 (by decide +kernel) rfl⟩
theorem ceX7_isDigit : gCe yX7_isDigit cX7_isDigit 1 1 (some .boolean) ∧ Cond.static yX7_isDigit ∈ TT := ⟨⟨TT_4 27 (by decide +kernel) rfl, TT_1 9 (by decide +kernel) rfl, by decide, by decide +kernel⟩, TT_4 26 (by decide +kernel) rfl⟩
theorem ceX8_pieceCount : gCe yX8_pieceCount cX8_pieceCount 1 0 (some .int) ∧ Cond.instanceMethod yX8_pieceCount ∈ TT ∧ Cond.selects yX8_pieceCount.cls yX8_pieceCount yX8_pieceCount ∈ TT := ⟨⟨TT_3 58 (by decide +kernel) rfl, TT_1 4 (by decide +kernel) rfl, by decide, by decide +kernel⟩, TT_3 56 (by decide +kernel) rfl, TT_3 57 (by decide +kernel) rfl⟩
theorem ceX8_goneCount : gCe yX8_goneCount cX8_goneCount 1 0 (some .int) ∧ Cond.instanceMethod yX8_goneCount ∈ TT ∧ Cond.selects yX8_goneCount.cls yX8_goneCount yX8_goneCount ∈ TT := ⟨⟨TT_3 44 (by decide +kernel) rfl, TT_1 4 (by decide +kernel) rfl, by decide, by decide +kernel⟩, TT_3 42 (by decide +kernel) rfl, TT_3 43 (by decide +kernel) rfl⟩
theorem ceX8_stuckCount : gCe yX8_stuckCount cX8_stuckCount 1 0 (some .int) ∧ Cond.instanceMethod yX8_stuckCount ∈ TT ∧ Cond.selects yX8_stuckCount.cls yX8_stuckCount yX8_stuckCount ∈ TT := ⟨⟨TT_3 54 (by decide +kernel) rfl, TT_1 4 (by decide +kernel) rfl, by decide, by decide +kernel⟩, TT_3 52 (by decide +kernel) rfl, TT_3 53 (by decide +kernel) rfl⟩
theorem ceX8_pieceAt : gCe yX8_pieceAt cX8_pieceAt 2 1 (some .int) ∧ Cond.instanceMethod yX8_pieceAt ∈ TT ∧ Cond.selects yX8_pieceAt.cls yX8_pieceAt yX8_pieceAt ∈ TT := ⟨⟨TT_3 64 (by decide +kernel) rfl, TT_1 4 (by decide +kernel) rfl, by decide, by decide +kernel⟩, TT_3 62 (by decide +kernel) rfl, TT_3 63 (by decide +kernel) rfl⟩
theorem ceX8_wayAt : gCe yX8_wayAt cX8_wayAt 2 1 (some .int) ∧ Cond.instanceMethod yX8_wayAt ∈ TT ∧ Cond.selects yX8_wayAt.cls yX8_wayAt yX8_wayAt ∈ TT := ⟨⟨TT_3 68 (by decide +kernel) rfl, TT_1 4 (by decide +kernel) rfl, by decide, by decide +kernel⟩, TT_3 66 (by decide +kernel) rfl, TT_3 67 (by decide +kernel) rfl⟩
theorem ceX8_refresh : gCe yX8_refresh cX8_refresh 2 0 none ∧ Cond.instanceMethod yX8_refresh ∈ TT ∧ Cond.selects yX8_refresh.cls yX8_refresh yX8_refresh ∈ TT := ⟨⟨TT_3 8 (by decide +kernel) rfl, TT_1 4 (by decide +kernel) rfl, by decide, by decide +kernel⟩, TT_3 6 (by decide +kernel) rfl, TT_3 7 (by decide +kernel) rfl⟩
theorem ceX8_lookFromEdge : gCe yX8_lookFromEdge cX8_lookFromEdge 4 1 none ∧ Cond.instanceMethod yX8_lookFromEdge ∈ TT ∧ Cond.selects yX8_lookFromEdge.cls yX8_lookFromEdge yX8_lookFromEdge ∈ TT := ⟨⟨TT_3 14 (by decide +kernel) rfl, TT_1 4 (by decide +kernel) rfl, by decide, by decide +kernel⟩, TT_3 13 (by decide +kernel) rfl, TT_0 11 (by decide +kernel) rfl⟩
theorem ceX8_lookBack : gCe yX8_lookBack cX8_lookBack 7 3 none ∧ Cond.instanceMethod yX8_lookBack ∈ TT ∧ Cond.selects yX8_lookBack.cls yX8_lookBack yX8_lookBack ∈ TT := ⟨⟨TT_3 23 (by decide +kernel) rfl, TT_1 4 (by decide +kernel) rfl, by decide, by decide +kernel⟩, TT_3 22 (by decide +kernel) rfl, TT_0 12 (by decide +kernel) rfl⟩
theorem ceX8_maskOf : gCe yX8_maskOf cX8_maskOf 1 1 (some .int) ∧ Cond.static yX8_maskOf ∈ TT := ⟨⟨TT_3 28 (by decide +kernel) rfl, TT_1 4 (by decide +kernel) rfl, by decide, by decide +kernel⟩, TT_3 27 (by decide +kernel) rfl⟩
theorem ceX8_takeLowestOff : gCe yX8_takeLowestOff cX8_takeLowestOff 5 1 (some .boolean) ∧ Cond.instanceMethod yX8_takeLowestOff ∈ TT ∧ Cond.selects yX8_takeLowestOff.cls yX8_takeLowestOff yX8_takeLowestOff ∈ TT := ⟨⟨TT_3 32 (by decide +kernel) rfl, TT_1 4 (by decide +kernel) rfl, by decide, by decide +kernel⟩, TT_3 31 (by decide +kernel) rfl, TT_0 13 (by decide +kernel) rfl⟩
theorem ceX8_lowestWay : gCe yX8_lowestWay cX8_lowestWay 4 1 (some .int) ∧ Cond.instanceMethod yX8_lowestWay ∈ TT ∧ Cond.selects yX8_lowestWay.cls yX8_lowestWay yX8_lowestWay ∈ TT := ⟨⟨TT_3 36 (by decide +kernel) rfl, TT_1 4 (by decide +kernel) rfl, by decide, by decide +kernel⟩, TT_3 35 (by decide +kernel) rfl, TT_0 14 (by decide +kernel) rfl⟩
theorem ceX9_length : gCe yX9_length cX9_length 1 0 (some .int) ∧ Cond.instanceMethod yX9_length ∈ TT ∧ Cond.selects yX9_length.cls yX9_length yX9_length ∈ TT := ⟨⟨TT_3 227 (by decide +kernel) rfl, TT_1 7 (by decide +kernel) rfl, by decide, by decide +kernel⟩, TT_3 225 (by decide +kernel) rfl, TT_3 226 (by decide +kernel) rfl⟩
theorem ceX9_byteAt : gCe yX9_byteAt cX9_byteAt 2 1 (some .int) ∧ Cond.instanceMethod yX9_byteAt ∈ TT ∧ Cond.selects yX9_byteAt.cls yX9_byteAt yX9_byteAt ∈ TT := ⟨⟨TT_4 20 (by decide +kernel) rfl, TT_1 7 (by decide +kernel) rfl, by decide, by decide +kernel⟩, TT_4 18 (by decide +kernel) rfl, TT_4 19 (by decide +kernel) rfl⟩
theorem ceX9_addNumber : gCe yX9_addNumber cX9_addNumber 3 1 none ∧ Cond.instanceMethod yX9_addNumber ∈ TT ∧ Cond.selects yX9_addNumber.cls yX9_addNumber yX9_addNumber ∈ TT := ⟨⟨TT_3 231 (by decide +kernel) rfl, TT_1 7 (by decide +kernel) rfl, by decide, by decide +kernel⟩, TT_3 229 (by decide +kernel) rfl, TT_3 230 (by decide +kernel) rfl⟩
theorem ceX9_cut : gCe yX9_cut cX9_cut 2 1 none ∧ Cond.instanceMethod yX9_cut ∈ TT ∧ Cond.selects yX9_cut.cls yX9_cut yX9_cut ∈ TT := ⟨⟨TT_3 239 (by decide +kernel) rfl, TT_1 7 (by decide +kernel) rfl, by decide, by decide +kernel⟩, TT_3 237 (by decide +kernel) rfl, TT_3 238 (by decide +kernel) rfl⟩
theorem ceX10_length : gCe yX10_length cX10_length 1 0 (some .int) ∧ Cond.instanceMethod yX10_length ∈ TT ∧ Cond.selects yX10_length.cls yX10_length yX10_length ∈ TT := ⟨⟨TT_5 34 (by decide +kernel) rfl, TT_1 11 (by decide +kernel) rfl, by decide, by decide +kernel⟩, TT_5 32 (by decide +kernel) rfl, TT_5 33 (by decide +kernel) rfl⟩
theorem ceX10_toldLength : gCe yX10_toldLength cX10_toldLength 1 0 (some .int) ∧ Cond.instanceMethod yX10_toldLength ∈ TT ∧ Cond.selects yX10_toldLength.cls yX10_toldLength yX10_toldLength ∈ TT := ⟨⟨TT_5 38 (by decide +kernel) rfl, TT_1 11 (by decide +kernel) rfl, by decide, by decide +kernel⟩, TT_5 36 (by decide +kernel) rfl, TT_5 37 (by decide +kernel) rfl⟩
theorem ceX10_isFull : gCe yX10_isFull cX10_isFull 1 0 (some .boolean) ∧ Cond.instanceMethod yX10_isFull ∈ TT ∧ Cond.selects yX10_isFull.cls yX10_isFull yX10_isFull ∈ TT := ⟨⟨TT_4 205 (by decide +kernel) rfl, TT_1 11 (by decide +kernel) rfl, by decide, by decide +kernel⟩, TT_4 203 (by decide +kernel) rfl, TT_4 204 (by decide +kernel) rfl⟩
theorem ceX10_isToldFull : gCe yX10_isToldFull cX10_isToldFull 1 0 (some .boolean) ∧ Cond.instanceMethod yX10_isToldFull ∈ TT ∧ Cond.selects yX10_isToldFull.cls yX10_isToldFull yX10_isToldFull ∈ TT := ⟨⟨TT_4 231 (by decide +kernel) rfl, TT_1 11 (by decide +kernel) rfl, by decide, by decide +kernel⟩, TT_4 229 (by decide +kernel) rfl, TT_4 230 (by decide +kernel) rfl⟩
theorem ceX10_has : gCe yX10_has cX10_has 2 1 (some .boolean) ∧ Cond.instanceMethod yX10_has ∈ TT ∧ Cond.selects yX10_has.cls yX10_has yX10_has ∈ TT := ⟨⟨TT_4 218 (by decide +kernel) rfl, TT_1 11 (by decide +kernel) rfl, by decide, by decide +kernel⟩, TT_4 216 (by decide +kernel) rfl, TT_4 217 (by decide +kernel) rfl⟩
theorem ceX10_add : gCe yX10_add cX10_add 4 1 (some .int) ∧ Cond.instanceMethod yX10_add ∈ TT ∧ Cond.selects yX10_add.cls yX10_add yX10_add ∈ TT := ⟨⟨TT_4 209 (by decide +kernel) rfl, TT_1 11 (by decide +kernel) rfl, by decide, by decide +kernel⟩, TT_4 207 (by decide +kernel) rfl, TT_4 208 (by decide +kernel) rfl⟩
theorem ceX10_likeness : gCe yX10_likeness cX10_likeness 7 2 (some .int) ∧ Cond.instanceMethod yX10_likeness ∈ TT ∧ Cond.selects yX10_likeness.cls yX10_likeness yX10_likeness ∈ TT := ⟨⟨TT_4 222 (by decide +kernel) rfl, TT_1 11 (by decide +kernel) rfl, by decide, by decide +kernel⟩, TT_4 220 (by decide +kernel) rfl, TT_4 221 (by decide +kernel) rfl⟩
theorem ceX10_addTold : gCe yX10_addTold cX10_addTold 4 3 (some .int) ∧ Cond.instanceMethod yX10_addTold ∈ TT ∧ Cond.selects yX10_addTold.cls yX10_addTold yX10_addTold ∈ TT := ⟨⟨TT_4 235 (by decide +kernel) rfl, TT_1 11 (by decide +kernel) rfl, by decide, by decide +kernel⟩, TT_4 233 (by decide +kernel) rfl, TT_4 234 (by decide +kernel) rfl⟩
theorem ceX10_workshopOf : gCe yX10_workshopOf cX10_workshopOf 4 2 (some .int) ∧ Cond.instanceMethod yX10_workshopOf ∈ TT ∧ Cond.selects yX10_workshopOf.cls yX10_workshopOf yX10_workshopOf ∈ TT := ⟨⟨TT_5 4 (by decide +kernel) rfl, TT_1 11 (by decide +kernel) rfl, by decide, by decide +kernel⟩, TT_5 2 (by decide +kernel) rfl, TT_5 3 (by decide +kernel) rfl⟩
theorem ceX10_workshopByMarks : gCe yX10_workshopByMarks cX10_workshopByMarks 5 2 (some .int) ∧ Cond.instanceMethod yX10_workshopByMarks ∈ TT ∧ Cond.selects yX10_workshopByMarks.cls yX10_workshopByMarks yX10_workshopByMarks ∈ TT := ⟨⟨TT_5 12 (by decide +kernel) rfl, TT_1 11 (by decide +kernel) rfl, by decide, by decide +kernel⟩, TT_5 10 (by decide +kernel) rfl, TT_5 11 (by decide +kernel) rfl⟩
theorem ceX10_compareWithOthers : gCe yX10_compareWithOthers cX10_compareWithOthers 5 2 none ∧ Cond.instanceMethod yX10_compareWithOthers ∈ TT ∧ Cond.selects yX10_compareWithOthers.cls yX10_compareWithOthers yX10_compareWithOthers ∈ TT := ⟨⟨TT_5 16 (by decide +kernel) rfl, TT_1 11 (by decide +kernel) rfl, by decide, by decide +kernel⟩, TT_5 15 (by decide +kernel) rfl, TT_0 34 (by decide +kernel) rfl⟩
theorem ceX10_isLiker : gCe yX10_isLiker cX10_isLiker 3 2 (some .boolean) ∧ Cond.instanceMethod yX10_isLiker ∈ TT ∧ Cond.selects yX10_isLiker.cls yX10_isLiker yX10_isLiker ∈ TT := ⟨⟨TT_5 23 (by decide +kernel) rfl, TT_1 11 (by decide +kernel) rfl, by decide, by decide +kernel⟩, TT_5 22 (by decide +kernel) rfl, TT_0 35 (by decide +kernel) rfl⟩
theorem ceX11_size : gCe yX11_size cX11_size 3 2 (some .int) ∧ Cond.instanceMethod yX11_size ∈ TT ∧ Cond.selects yX11_size.cls yX11_size yX11_size ∈ TT := ⟨⟨TT_2 88 (by decide +kernel) rfl, TT_1 1 (by decide +kernel) rfl, by decide, by decide +kernel⟩, TT_2 86 (by decide +kernel) rfl, TT_2 87 (by decide +kernel) rfl⟩
theorem ceX11_draw : gCe yX11_draw cX11_draw 6 5 (some .int) ∧ Cond.instanceMethod yX11_draw ∈ TT ∧ Cond.selects yX11_draw.cls yX11_draw yX11_draw ∈ TT := ⟨⟨TT_2 106 (by decide +kernel) rfl, TT_1 1 (by decide +kernel) rfl, by decide, by decide +kernel⟩, TT_2 104 (by decide +kernel) rfl, TT_2 105 (by decide +kernel) rfl⟩
theorem ceX11_cell : gCe yX11_cell cX11_cell 4 3 (some .int) ∧ Cond.instanceMethod yX11_cell ∈ TT ∧ Cond.selects yX11_cell.cls yX11_cell yX11_cell ∈ TT := ⟨⟨TT_2 125 (by decide +kernel) rfl, TT_1 1 (by decide +kernel) rfl, by decide, by decide +kernel⟩, TT_2 123 (by decide +kernel) rfl, TT_2 124 (by decide +kernel) rfl⟩
theorem ceX11_repair : gCe yX11_repair cX11_repair 3 2 (some .int) ∧ Cond.instanceMethod yX11_repair ∈ TT ∧ Cond.selects yX11_repair.cls yX11_repair yX11_repair ∈ TT := ⟨⟨TT_2 196 (by decide +kernel) rfl, TT_1 1 (by decide +kernel) rfl, by decide, by decide +kernel⟩, TT_2 194 (by decide +kernel) rfl, TT_2 195 (by decide +kernel) rfl⟩
theorem ceX11_wall : gCe yX11_wall cX11_wall 3 2 (some .int) ∧ Cond.instanceMethod yX11_wall ∈ TT ∧ Cond.selects yX11_wall.cls yX11_wall yX11_wall ∈ TT := ⟨⟨TT_2 216 (by decide +kernel) rfl, TT_1 1 (by decide +kernel) rfl, by decide, by decide +kernel⟩, TT_2 214 (by decide +kernel) rfl, TT_2 215 (by decide +kernel) rfl⟩
theorem ceX11_many : gCe yX11_many cX11_many 2 1 (some .int) ∧ Cond.instanceMethod yX11_many ∈ TT ∧ Cond.selects yX11_many.cls yX11_many yX11_many ∈ TT := ⟨⟨TT_2 234 (by decide +kernel) rfl, TT_1 1 (by decide +kernel) rfl, by decide, by decide +kernel⟩, TT_2 232 (by decide +kernel) rfl, TT_2 233 (by decide +kernel) rfl⟩
theorem ceX11_off : gCe yX11_off cX11_off 3 2 (some .int) ∧ Cond.instanceMethod yX11_off ∈ TT ∧ Cond.selects yX11_off.cls yX11_off yX11_off ∈ TT := ⟨⟨TT_3 4 (by decide +kernel) rfl, TT_1 1 (by decide +kernel) rfl, by decide, by decide +kernel⟩, TT_3 2 (by decide +kernel) rfl, TT_3 3 (by decide +kernel) rfl⟩
theorem ceX11_lot : gCe yX11_lot cX11_lot 5 4 (some .int) ∧ Cond.instanceMethod yX11_lot ∈ TT ∧ Cond.selects yX11_lot.cls yX11_lot yX11_lot ∈ TT := ⟨⟨TT_3 72 (by decide +kernel) rfl, TT_1 1 (by decide +kernel) rfl, by decide, by decide +kernel⟩, TT_3 70 (by decide +kernel) rfl, TT_3 71 (by decide +kernel) rfl⟩
theorem ceX11_mix : gCe yX11_mix cX11_mix 6 4 (some .int) ∧ Cond.instanceMethod yX11_mix ∈ TT ∧ Cond.selects yX11_mix.cls yX11_mix yX11_mix ∈ TT := ⟨⟨TT_3 88 (by decide +kernel) rfl, TT_1 1 (by decide +kernel) rfl, by decide, by decide +kernel⟩, TT_3 86 (by decide +kernel) rfl, TT_3 87 (by decide +kernel) rfl⟩
theorem ceX11_mixed : gCe yX11_mixed cX11_mixed 2 1 (some .int) ∧ Cond.instanceMethod yX11_mixed ∈ TT ∧ Cond.selects yX11_mixed.cls yX11_mixed yX11_mixed ∈ TT := ⟨⟨TT_3 182 (by decide +kernel) rfl, TT_1 1 (by decide +kernel) rfl, by decide, by decide +kernel⟩, TT_3 180 (by decide +kernel) rfl, TT_3 181 (by decide +kernel) rfl⟩
theorem ceX11_pour : gCe yX11_pour cX11_pour 2 0 (some .int) ∧ Cond.instanceMethod yX11_pour ∈ TT ∧ Cond.selects yX11_pour.cls yX11_pour yX11_pour ∈ TT := ⟨⟨TT_3 200 (by decide +kernel) rfl, TT_1 1 (by decide +kernel) rfl, by decide, by decide +kernel⟩, TT_3 198 (by decide +kernel) rfl, TT_3 199 (by decide +kernel) rfl⟩
theorem ceX11_left : gCe yX11_left cX11_left 2 1 (some .int) ∧ Cond.instanceMethod yX11_left ∈ TT ∧ Cond.selects yX11_left.cls yX11_left yX11_left ∈ TT := ⟨⟨TT_3 218 (by decide +kernel) rfl, TT_1 1 (by decide +kernel) rfl, by decide, by decide +kernel⟩, TT_3 216 (by decide +kernel) rfl, TT_3 217 (by decide +kernel) rfl⟩
theorem ceX11_feed : gCe yX11_feed cX11_feed 6 5 (some .int) ∧ Cond.instanceMethod yX11_feed ∈ TT ∧ Cond.selects yX11_feed.cls yX11_feed yX11_feed ∈ TT := ⟨⟨TT_3 223 (by decide +kernel) rfl, TT_1 1 (by decide +kernel) rfl, by decide, by decide +kernel⟩, TT_3 221 (by decide +kernel) rfl, TT_3 222 (by decide +kernel) rfl⟩
theorem ceX11_end : gCe yX11_end cX11_end 2 1 (some .int) ∧ Cond.instanceMethod yX11_end ∈ TT ∧ Cond.selects yX11_end.cls yX11_end yX11_end ∈ TT := ⟨⟨TT_3 235 (by decide +kernel) rfl, TT_1 1 (by decide +kernel) rfl, by decide, by decide +kernel⟩, TT_3 233 (by decide +kernel) rfl, TT_3 234 (by decide +kernel) rfl⟩
theorem ceX11_rules : gCe yX11_rules cX11_rules 2 0 (some .int) ∧ Cond.instanceMethod yX11_rules ∈ TT ∧ Cond.selects yX11_rules.cls yX11_rules yX11_rules ∈ TT := ⟨⟨TT_4 3 (by decide +kernel) rfl, TT_1 1 (by decide +kernel) rfl, by decide, by decide +kernel⟩, TT_4 1 (by decide +kernel) rfl, TT_4 2 (by decide +kernel) rfl⟩
theorem ceX11_fault : gCe yX11_fault cX11_fault 1 0 (some .int) ∧ Cond.instanceMethod yX11_fault ∈ TT ∧ Cond.selects yX11_fault.cls yX11_fault yX11_fault ∈ TT := ⟨⟨TT_4 142 (by decide +kernel) rfl, TT_1 1 (by decide +kernel) rfl, by decide, by decide +kernel⟩, TT_4 140 (by decide +kernel) rfl, TT_4 141 (by decide +kernel) rfl⟩
theorem ceX11_broken : gCe yX11_broken cX11_broken 3 1 (some .int) ∧ Cond.instanceMethod yX11_broken ∈ TT ∧ Cond.selects yX11_broken.cls yX11_broken yX11_broken ∈ TT := ⟨⟨TT_4 146 (by decide +kernel) rfl, TT_1 1 (by decide +kernel) rfl, by decide, by decide +kernel⟩, TT_4 144 (by decide +kernel) rfl, TT_4 145 (by decide +kernel) rfl⟩
theorem ceX11_vessel : gCe yX11_vessel cX11_vessel 2 1 (some .int) ∧ Cond.instanceMethod yX11_vessel ∈ TT ∧ Cond.selects yX11_vessel.cls yX11_vessel yX11_vessel ∈ TT := ⟨⟨TT_4 200 (by decide +kernel) rfl, TT_1 1 (by decide +kernel) rfl, by decide, by decide +kernel⟩, TT_4 198 (by decide +kernel) rfl, TT_4 199 (by decide +kernel) rfl⟩
theorem ceX11_like : gCe yX11_like cX11_like 3 2 (some .int) ∧ Cond.instanceMethod yX11_like ∈ TT ∧ Cond.selects yX11_like.cls yX11_like yX11_like ∈ TT := ⟨⟨TT_4 214 (by decide +kernel) rfl, TT_1 1 (by decide +kernel) rfl, by decide, by decide +kernel⟩, TT_4 212 (by decide +kernel) rfl, TT_4 213 (by decide +kernel) rfl⟩
theorem ceX11_tell : gCe yX11_tell cX11_tell 4 3 (some .int) ∧ Cond.instanceMethod yX11_tell ∈ TT ∧ Cond.selects yX11_tell.cls yX11_tell yX11_tell ∈ TT := ⟨⟨TT_4 227 (by decide +kernel) rfl, TT_1 1 (by decide +kernel) rfl, by decide, by decide +kernel⟩, TT_4 225 (by decide +kernel) rfl, TT_4 226 (by decide +kernel) rfl⟩
theorem ceX11_of : gCe yX11_of cX11_of 3 2 (some .int) ∧ Cond.instanceMethod yX11_of ∈ TT ∧ Cond.selects yX11_of.cls yX11_of yX11_of ∈ TT := ⟨⟨TT_5 0 (by decide +kernel) rfl, TT_1 1 (by decide +kernel) rfl, by decide, by decide +kernel⟩, TT_4 238 (by decide +kernel) rfl, TT_4 239 (by decide +kernel) rfl⟩
theorem ceX11_by : gCe yX11_by cX11_by 3 2 (some .int) ∧ Cond.instanceMethod yX11_by ∈ TT ∧ Cond.selects yX11_by.cls yX11_by yX11_by ∈ TT := ⟨⟨TT_5 8 (by decide +kernel) rfl, TT_1 1 (by decide +kernel) rfl, by decide, by decide +kernel⟩, TT_5 6 (by decide +kernel) rfl, TT_5 7 (by decide +kernel) rfl⟩
theorem ceX11_count : gCe yX11_count cX11_count 2 1 (some .int) ∧ Cond.instanceMethod yX11_count ∈ TT ∧ Cond.selects yX11_count.cls yX11_count yX11_count ∈ TT := ⟨⟨TT_5 27 (by decide +kernel) rfl, TT_1 1 (by decide +kernel) rfl, by decide, by decide +kernel⟩, TT_5 25 (by decide +kernel) rfl, TT_5 26 (by decide +kernel) rfl⟩
theorem ceX11_status : gCe yX11_status cX11_status 1 0 (some .int) ∧ Cond.instanceMethod yX11_status ∈ TT ∧ Cond.selects yX11_status.cls yX11_status yX11_status ∈ TT := ⟨⟨TT_5 42 (by decide +kernel) rfl, TT_1 1 (by decide +kernel) rfl, by decide, by decide +kernel⟩, TT_5 40 (by decide +kernel) rfl, TT_5 41 (by decide +kernel) rfl⟩
theorem ceX11_answered : gCe yX11_answered cX11_answered 2 1 (some .int) ∧ Cond.instanceMethod yX11_answered ∈ TT ∧ Cond.selects yX11_answered.cls yX11_answered yX11_answered ∈ TT := ⟨⟨TT_2 92 (by decide +kernel) rfl, TT_1 1 (by decide +kernel) rfl, by decide, by decide +kernel⟩, TT_2 91 (by decide +kernel) rfl, TT_0 0 (by decide +kernel) rfl⟩
theorem ceX11_howManyPieces : gCe yX11_howManyPieces cX11_howManyPieces 2 1 (some .int) ∧ Cond.instanceMethod yX11_howManyPieces ∈ TT ∧ Cond.selects yX11_howManyPieces.cls yX11_howManyPieces yX11_howManyPieces ∈ TT := ⟨⟨TT_3 40 (by decide +kernel) rfl, TT_1 1 (by decide +kernel) rfl, by decide, by decide +kernel⟩, TT_3 39 (by decide +kernel) rfl, TT_0 15 (by decide +kernel) rfl⟩
theorem ceX11_isSort : gCe yX11_isSort cX11_isSort 1 1 (some .boolean) ∧ Cond.static yX11_isSort ∈ TT := ⟨⟨TT_2 109 (by decide +kernel) rfl, TT_1 1 (by decide +kernel) rfl, by decide, by decide +kernel⟩, TT_2 108 (by decide +kernel) rfl⟩
theorem ceX11_isClay : gCe yX11_isClay cX11_isClay 1 1 (some .boolean) ∧ Cond.static yX11_isClay ∈ TT := ⟨⟨TT_2 112 (by decide +kernel) rfl, TT_1 1 (by decide +kernel) rfl, by decide, by decide +kernel⟩, TT_2 111 (by decide +kernel) rfl⟩
theorem ceX11_isWithin : gCe yX11_isWithin cX11_isWithin 2 2 (some .boolean) ∧ Cond.static yX11_isWithin ∈ TT := ⟨⟨TT_3 75 (by decide +kernel) rfl, TT_1 1 (by decide +kernel) rfl, by decide, by decide +kernel⟩, TT_3 74 (by decide +kernel) rfl⟩
theorem ceX12_in : gCe yX12_in cX12_in 6 3 (some .boolean) ∧ Cond.static yX12_in ∈ TT := ⟨⟨TT_5 190 (by decide +kernel) rfl, TT_1 13 (by decide +kernel) rfl, by decide, by decide +kernel⟩, TT_5 189 (by decide +kernel) rfl⟩
theorem ceX12_told : gCe yX12_told cX12_told 2 1 (some .int) ∧ Cond.instanceMethod yX12_told ∈ TT ∧ Cond.selects yX12_told.cls yX12_told yX12_told ∈ TT := ⟨⟨TT_5 194 (by decide +kernel) rfl, TT_1 13 (by decide +kernel) rfl, by decide, by decide +kernel⟩, TT_5 193 (by decide +kernel) rfl, TT_0 36 (by decide +kernel) rfl⟩
theorem ceX12_isCell : gCe yX12_isCell cX12_isCell 3 2 (some .boolean) ∧ Cond.instanceMethod yX12_isCell ∈ TT ∧ Cond.selects yX12_isCell.cls yX12_isCell yX12_isCell ∈ TT := ⟨⟨TT_5 209 (by decide +kernel) rfl, TT_1 13 (by decide +kernel) rfl, by decide, by decide +kernel⟩, TT_5 208 (by decide +kernel) rfl, TT_0 38 (by decide +kernel) rfl⟩
theorem ceX12_forget : gCe yX12_forget cX12_forget 2 0 none ∧ Cond.instanceMethod yX12_forget ∈ TT ∧ Cond.selects yX12_forget.cls yX12_forget yX12_forget ∈ TT := ⟨⟨TT_5 198 (by decide +kernel) rfl, TT_1 13 (by decide +kernel) rfl, by decide, by decide +kernel⟩, TT_5 197 (by decide +kernel) rfl, TT_0 37 (by decide +kernel) rfl⟩
theorem ceX12_size : gCe yX12_size cX12_size 4 2 (some .int) ∧ Cond.instanceMethod yX12_size ∈ TT ∧ Cond.selects yX12_size.cls yX12_size yX12_size ∈ TT := ⟨⟨TT_5 185 (by decide +kernel) rfl, TT_1 13 (by decide +kernel) rfl, by decide, by decide +kernel⟩, TT_5 183 (by decide +kernel) rfl, TT_5 184 (by decide +kernel) rfl⟩
theorem ceX12_draw : gCe yX12_draw cX12_draw 9 5 (some .int) ∧ Cond.instanceMethod yX12_draw ∈ TT ∧ Cond.selects yX12_draw.cls yX12_draw yX12_draw ∈ TT := ⟨⟨TT_5 202 (by decide +kernel) rfl, TT_1 13 (by decide +kernel) rfl, by decide, by decide +kernel⟩, TT_5 200 (by decide +kernel) rfl, TT_5 201 (by decide +kernel) rfl⟩
theorem ceX12_isHollow : gCe yX12_isHollow cX12_isHollow 2 1 (some .boolean) ∧ Cond.instanceMethod yX12_isHollow ∈ TT ∧ Cond.selects yX12_isHollow.cls yX12_isHollow yX12_isHollow ∈ TT := ⟨⟨TT_5 229 (by decide +kernel) rfl, TT_1 13 (by decide +kernel) rfl, by decide, by decide +kernel⟩, TT_5 228 (by decide +kernel) rfl, TT_0 42 (by decide +kernel) rfl⟩
theorem ceX12_join : gCe yX12_join cX12_join 6 1 none ∧ Cond.instanceMethod yX12_join ∈ TT ∧ Cond.selects yX12_join.cls yX12_join yX12_join ∈ TT := ⟨⟨TT_5 221 (by decide +kernel) rfl, TT_1 13 (by decide +kernel) rfl, by decide, by decide +kernel⟩, TT_5 220 (by decide +kernel) rfl, TT_0 40 (by decide +kernel) rfl⟩
theorem ceX12_melt : gCe yX12_melt cX12_melt 4 2 (some .boolean) ∧ Cond.instanceMethod yX12_melt ∈ TT ∧ Cond.selects yX12_melt.cls yX12_melt yX12_melt ∈ TT := ⟨⟨TT_5 225 (by decide +kernel) rfl, TT_1 13 (by decide +kernel) rfl, by decide, by decide +kernel⟩, TT_5 224 (by decide +kernel) rfl, TT_0 41 (by decide +kernel) rfl⟩
theorem ceX12_has : gCe yX12_has cX12_has 7 3 (some .boolean) ∧ Cond.instanceMethod yX12_has ∈ TT ∧ Cond.selects yX12_has.cls yX12_has yX12_has ∈ TT := ⟨⟨TT_5 233 (by decide +kernel) rfl, TT_1 13 (by decide +kernel) rfl, by decide, by decide +kernel⟩, TT_5 232 (by decide +kernel) rfl, TT_0 43 (by decide +kernel) rfl⟩
theorem ceX12_pourMould : gCe yX12_pourMould cX12_pourMould 4 0 none ∧ Cond.instanceMethod yX12_pourMould ∈ TT ∧ Cond.selects yX12_pourMould.cls yX12_pourMould yX12_pourMould ∈ TT := ⟨⟨TT_5 217 (by decide +kernel) rfl, TT_1 13 (by decide +kernel) rfl, by decide, by decide +kernel⟩, TT_5 216 (by decide +kernel) rfl, TT_0 39 (by decide +kernel) rfl⟩
theorem ceX12_isCast : gCe yX12_isCast cX12_isCast 3 2 (some .boolean) ∧ Cond.instanceMethod yX12_isCast ∈ TT ∧ Cond.selects yX12_isCast.cls yX12_isCast yX12_isCast ∈ TT := ⟨⟨TT_6 1 (by decide +kernel) rfl, TT_1 13 (by decide +kernel) rfl, by decide, by decide +kernel⟩, TT_6 0 (by decide +kernel) rfl, TT_0 44 (by decide +kernel) rfl⟩
theorem ceX12_cell : gCe yX12_cell cX12_cell 4 3 (some .int) ∧ Cond.instanceMethod yX12_cell ∈ TT ∧ Cond.selects yX12_cell.cls yX12_cell yX12_cell ∈ TT := ⟨⟨TT_5 213 (by decide +kernel) rfl, TT_1 13 (by decide +kernel) rfl, by decide, by decide +kernel⟩, TT_5 211 (by decide +kernel) rfl, TT_5 212 (by decide +kernel) rfl⟩
theorem ceX12_repair : gCe yX12_repair cX12_repair 5 2 (some .int) ∧ Cond.instanceMethod yX12_repair ∈ TT ∧ Cond.selects yX12_repair.cls yX12_repair yX12_repair ∈ TT := ⟨⟨TT_5 237 (by decide +kernel) rfl, TT_1 13 (by decide +kernel) rfl, by decide, by decide +kernel⟩, TT_5 235 (by decide +kernel) rfl, TT_5 236 (by decide +kernel) rfl⟩
theorem ceX12_wallAt : gCe yX12_wallAt cX12_wallAt 6 2 (some .int) ∧ Cond.instanceMethod yX12_wallAt ∈ TT ∧ Cond.selects yX12_wallAt.cls yX12_wallAt yX12_wallAt ∈ TT := ⟨⟨TT_6 13 (by decide +kernel) rfl, TT_1 13 (by decide +kernel) rfl, by decide, by decide +kernel⟩, TT_6 12 (by decide +kernel) rfl, TT_0 46 (by decide +kernel) rfl⟩
theorem ceX12_wallOf : gCe yX12_wallOf cX12_wallOf 5 0 (some .int) ∧ Cond.instanceMethod yX12_wallOf ∈ TT ∧ Cond.selects yX12_wallOf.cls yX12_wallOf yX12_wallOf ∈ TT := ⟨⟨TT_6 9 (by decide +kernel) rfl, TT_1 13 (by decide +kernel) rfl, by decide, by decide +kernel⟩, TT_6 8 (by decide +kernel) rfl, TT_0 45 (by decide +kernel) rfl⟩
theorem ceX12_wall : gCe yX12_wall cX12_wall 4 2 (some .int) ∧ Cond.instanceMethod yX12_wall ∈ TT ∧ Cond.selects yX12_wall.cls yX12_wall yX12_wall ∈ TT := ⟨⟨TT_6 5 (by decide +kernel) rfl, TT_1 13 (by decide +kernel) rfl, by decide, by decide +kernel⟩, TT_6 3 (by decide +kernel) rfl, TT_6 4 (by decide +kernel) rfl⟩
theorem ceX12_cellsOf : gCe yX12_cellsOf cX12_cellsOf 7 1 (some .int) ∧ Cond.instanceMethod yX12_cellsOf ∈ TT ∧ Cond.selects yX12_cellsOf.cls yX12_cellsOf yX12_cellsOf ∈ TT := ⟨⟨TT_6 22 (by decide +kernel) rfl, TT_1 13 (by decide +kernel) rfl, by decide, by decide +kernel⟩, TT_6 21 (by decide +kernel) rfl, TT_0 47 (by decide +kernel) rfl⟩
theorem ceX12_many : gCe yX12_many cX12_many 2 1 (some .int) ∧ Cond.instanceMethod yX12_many ∈ TT ∧ Cond.selects yX12_many.cls yX12_many yX12_many ∈ TT := ⟨⟨TT_6 17 (by decide +kernel) rfl, TT_1 13 (by decide +kernel) rfl, by decide, by decide +kernel⟩, TT_6 15 (by decide +kernel) rfl, TT_6 16 (by decide +kernel) rfl⟩
theorem ceX12_canGo : gCe yX12_canGo cX12_canGo 11 2 (some .boolean) ∧ Cond.instanceMethod yX12_canGo ∈ TT ∧ Cond.selects yX12_canGo.cls yX12_canGo yX12_canGo ∈ TT := ⟨⟨TT_6 34 (by decide +kernel) rfl, TT_1 13 (by decide +kernel) rfl, by decide, by decide +kernel⟩, TT_6 33 (by decide +kernel) rfl, TT_0 49 (by decide +kernel) rfl⟩
theorem ceX12_drawOff : gCe yX12_drawOff cX12_drawOff 4 0 none ∧ Cond.instanceMethod yX12_drawOff ∈ TT ∧ Cond.selects yX12_drawOff.cls yX12_drawOff yX12_drawOff ∈ TT := ⟨⟨TT_6 30 (by decide +kernel) rfl, TT_1 13 (by decide +kernel) rfl, by decide, by decide +kernel⟩, TT_6 29 (by decide +kernel) rfl, TT_0 48 (by decide +kernel) rfl⟩
theorem ceX12_off : gCe yX12_off cX12_off 3 2 (some .int) ∧ Cond.instanceMethod yX12_off ∈ TT ∧ Cond.selects yX12_off.cls yX12_off yX12_off ∈ TT := ⟨⟨TT_6 26 (by decide +kernel) rfl, TT_1 13 (by decide +kernel) rfl, by decide, by decide +kernel⟩, TT_6 24 (by decide +kernel) rfl, TT_6 25 (by decide +kernel) rfl⟩
theorem ceX12_lot : gCe yX12_lot cX12_lot 5 4 (some .int) ∧ Cond.instanceMethod yX12_lot ∈ TT ∧ Cond.selects yX12_lot.cls yX12_lot yX12_lot ∈ TT := ⟨⟨TT_6 38 (by decide +kernel) rfl, TT_1 13 (by decide +kernel) rfl, by decide, by decide +kernel⟩, TT_6 36 (by decide +kernel) rfl, TT_6 37 (by decide +kernel) rfl⟩
theorem ceX12_priceOf : gCe yX12_priceOf cX12_priceOf 10 4 (some .int) ∧ Cond.instanceMethod yX12_priceOf ∈ TT ∧ Cond.selects yX12_priceOf.cls yX12_priceOf yX12_priceOf ∈ TT := ⟨⟨TT_6 48 (by decide +kernel) rfl, TT_1 13 (by decide +kernel) rfl, by decide, by decide +kernel⟩, TT_6 47 (by decide +kernel) rfl, TT_0 50 (by decide +kernel) rfl⟩
theorem ceX12_mix : gCe yX12_mix cX12_mix 11 4 (some .int) ∧ Cond.instanceMethod yX12_mix ∈ TT ∧ Cond.selects yX12_mix.cls yX12_mix yX12_mix ∈ TT := ⟨⟨TT_6 44 (by decide +kernel) rfl, TT_1 13 (by decide +kernel) rfl, by decide, by decide +kernel⟩, TT_6 42 (by decide +kernel) rfl, TT_6 43 (by decide +kernel) rfl⟩
theorem ceX12_mixed : gCe yX12_mixed cX12_mixed 2 1 (some .int) ∧ Cond.instanceMethod yX12_mixed ∈ TT ∧ Cond.selects yX12_mixed.cls yX12_mixed yX12_mixed ∈ TT := ⟨⟨TT_6 52 (by decide +kernel) rfl, TT_1 13 (by decide +kernel) rfl, by decide, by decide +kernel⟩, TT_6 50 (by decide +kernel) rfl, TT_6 51 (by decide +kernel) rfl⟩
theorem ceX12_pour : gCe yX12_pour cX12_pour 4 0 (some .int) ∧ Cond.instanceMethod yX12_pour ∈ TT ∧ Cond.selects yX12_pour.cls yX12_pour yX12_pour ∈ TT := ⟨⟨TT_6 56 (by decide +kernel) rfl, TT_1 13 (by decide +kernel) rfl, by decide, by decide +kernel⟩, TT_6 54 (by decide +kernel) rfl, TT_6 55 (by decide +kernel) rfl⟩
theorem ceX12_left : gCe yX12_left cX12_left 2 1 (some .int) ∧ Cond.instanceMethod yX12_left ∈ TT ∧ Cond.selects yX12_left.cls yX12_left yX12_left ∈ TT := ⟨⟨TT_6 60 (by decide +kernel) rfl, TT_1 13 (by decide +kernel) rfl, by decide, by decide +kernel⟩, TT_6 58 (by decide +kernel) rfl, TT_6 59 (by decide +kernel) rfl⟩
theorem ceX12_four : gCe yX12_four cX12_four 3 1 none ∧ Cond.instanceMethod yX12_four ∈ TT ∧ Cond.selects yX12_four.cls yX12_four yX12_four ∈ TT := ⟨⟨TT_6 68 (by decide +kernel) rfl, TT_1 13 (by decide +kernel) rfl, by decide, by decide +kernel⟩, TT_6 67 (by decide +kernel) rfl, TT_0 51 (by decide +kernel) rfl⟩
theorem ceX12_feed : gCe yX12_feed cX12_feed 6 5 (some .int) ∧ Cond.instanceMethod yX12_feed ∈ TT ∧ Cond.selects yX12_feed.cls yX12_feed yX12_feed ∈ TT := ⟨⟨TT_6 64 (by decide +kernel) rfl, TT_1 13 (by decide +kernel) rfl, by decide, by decide +kernel⟩, TT_6 62 (by decide +kernel) rfl, TT_6 63 (by decide +kernel) rfl⟩
theorem ceX12_end : gCe yX12_end cX12_end 2 1 (some .int) ∧ Cond.instanceMethod yX12_end ∈ TT ∧ Cond.selects yX12_end.cls yX12_end yX12_end ∈ TT := ⟨⟨TT_6 72 (by decide +kernel) rfl, TT_1 13 (by decide +kernel) rfl, by decide, by decide +kernel⟩, TT_6 70 (by decide +kernel) rfl, TT_6 71 (by decide +kernel) rfl⟩
theorem ceX12_isSmall : gCe yX12_isSmall cX12_isSmall 1 1 (some .boolean) ∧ Cond.static yX12_isSmall ∈ TT := ⟨⟨TT_6 83 (by decide +kernel) rfl, TT_1 13 (by decide +kernel) rfl, by decide, by decide +kernel⟩, TT_6 82 (by decide +kernel) rfl⟩
theorem ceX12_isDigit : gCe yX12_isDigit cX12_isDigit 1 1 (some .boolean) ∧ Cond.static yX12_isDigit ∈ TT := ⟨⟨TT_6 86 (by decide +kernel) rfl, TT_1 13 (by decide +kernel) rfl, by decide, by decide +kernel⟩, TT_6 85 (by decide +kernel) rfl⟩
theorem ceX12_next : gCe yX12_next cX12_next 1 0 none ∧ Cond.instanceMethod yX12_next ∈ TT ∧ Cond.selects yX12_next.cls yX12_next yX12_next ∈ TT := ⟨⟨TT_6 80 (by decide +kernel) rfl, TT_1 13 (by decide +kernel) rfl, by decide, by decide +kernel⟩, TT_6 79 (by decide +kernel) rfl, TT_0 52 (by decide +kernel) rfl⟩
theorem ceX12_isWord : gCe yX12_isWord cX12_isWord 10 7 (some .boolean) ∧ Cond.instanceMethod yX12_isWord ∈ TT ∧ Cond.selects yX12_isWord.cls yX12_isWord yX12_isWord ∈ TT := ⟨⟨TT_6 102 (by decide +kernel) rfl, TT_1 13 (by decide +kernel) rfl, by decide, by decide +kernel⟩, TT_6 101 (by decide +kernel) rfl, TT_0 55 (by decide +kernel) rfl⟩
theorem ceX12_must : gCe yX12_must cX12_must 2 1 none ∧ Cond.instanceMethod yX12_must ∈ TT ∧ Cond.selects yX12_must.cls yX12_must yX12_must ∈ TT := ⟨⟨TT_6 106 (by decide +kernel) rfl, TT_1 13 (by decide +kernel) rfl, by decide, by decide +kernel⟩, TT_6 105 (by decide +kernel) rfl, TT_0 56 (by decide +kernel) rfl⟩
theorem ceX12_number : gCe yX12_number cX12_number 4 1 (some .int) ∧ Cond.instanceMethod yX12_number ∈ TT ∧ Cond.selects yX12_number.cls yX12_number yX12_number ∈ TT := ⟨⟨TT_6 110 (by decide +kernel) rfl, TT_1 13 (by decide +kernel) rfl, by decide, by decide +kernel⟩, TT_6 109 (by decide +kernel) rfl, TT_0 57 (by decide +kernel) rfl⟩
theorem ceX12_sortAt : gCe yX12_sortAt cX12_sortAt 1 0 (some .int) ∧ Cond.instanceMethod yX12_sortAt ∈ TT ∧ Cond.selects yX12_sortAt.cls yX12_sortAt yX12_sortAt ∈ TT := ⟨⟨TT_6 98 (by decide +kernel) rfl, TT_1 13 (by decide +kernel) rfl, by decide, by decide +kernel⟩, TT_6 97 (by decide +kernel) rfl, TT_0 54 (by decide +kernel) rfl⟩
theorem ceX12_readRule : gCe yX12_readRule cX12_readRule 4 0 none ∧ Cond.instanceMethod yX12_readRule ∈ TT ∧ Cond.selects yX12_readRule.cls yX12_readRule yX12_readRule ∈ TT := ⟨⟨TT_6 94 (by decide +kernel) rfl, TT_1 13 (by decide +kernel) rfl, by decide, by decide +kernel⟩, TT_6 93 (by decide +kernel) rfl, TT_0 53 (by decide +kernel) rfl⟩
theorem ceX12_rules : gCe yX12_rules cX12_rules 2 0 (some .int) ∧ Cond.instanceMethod yX12_rules ∈ TT ∧ Cond.selects yX12_rules.cls yX12_rules yX12_rules ∈ TT := ⟨⟨TT_6 76 (by decide +kernel) rfl, TT_1 13 (by decide +kernel) rfl, by decide, by decide +kernel⟩, TT_6 74 (by decide +kernel) rfl, TT_6 75 (by decide +kernel) rfl⟩
theorem ceX12_fault : gCe yX12_fault cX12_fault 1 0 (some .int) ∧ Cond.instanceMethod yX12_fault ∈ TT ∧ Cond.selects yX12_fault.cls yX12_fault yX12_fault ∈ TT := ⟨⟨TT_6 115 (by decide +kernel) rfl, TT_1 13 (by decide +kernel) rfl, by decide, by decide +kernel⟩, TT_6 113 (by decide +kernel) rfl, TT_6 114 (by decide +kernel) rfl⟩
theorem ceX12_isBroken : gCe yX12_isBroken cX12_isBroken 4 1 (some .boolean) ∧ Cond.instanceMethod yX12_isBroken ∈ TT ∧ Cond.selects yX12_isBroken.cls yX12_isBroken yX12_isBroken ∈ TT := ⟨⟨TT_6 123 (by decide +kernel) rfl, TT_1 13 (by decide +kernel) rfl, by decide, by decide +kernel⟩, TT_6 122 (by decide +kernel) rfl, TT_0 58 (by decide +kernel) rfl⟩
theorem ceX12_broken : gCe yX12_broken cX12_broken 3 1 (some .int) ∧ Cond.instanceMethod yX12_broken ∈ TT ∧ Cond.selects yX12_broken.cls yX12_broken yX12_broken ∈ TT := ⟨⟨TT_6 119 (by decide +kernel) rfl, TT_1 13 (by decide +kernel) rfl, by decide, by decide +kernel⟩, TT_6 117 (by decide +kernel) rfl, TT_6 118 (by decide +kernel) rfl⟩
theorem ceX12_isVessel : gCe yX12_isVessel cX12_isVessel 2 1 (some .boolean) ∧ Cond.instanceMethod yX12_isVessel ∈ TT ∧ Cond.selects yX12_isVessel.cls yX12_isVessel yX12_isVessel ∈ TT := ⟨⟨TT_6 136 (by decide +kernel) rfl, TT_1 13 (by decide +kernel) rfl, by decide, by decide +kernel⟩, TT_6 135 (by decide +kernel) rfl, TT_0 59 (by decide +kernel) rfl⟩
theorem ceX12_vessel : gCe yX12_vessel cX12_vessel 4 1 (some .int) ∧ Cond.instanceMethod yX12_vessel ∈ TT ∧ Cond.selects yX12_vessel.cls yX12_vessel yX12_vessel ∈ TT := ⟨⟨TT_6 127 (by decide +kernel) rfl, TT_1 13 (by decide +kernel) rfl, by decide, by decide +kernel⟩, TT_6 125 (by decide +kernel) rfl, TT_6 126 (by decide +kernel) rfl⟩
theorem ceX12_likeness : gCe yX12_likeness cX12_likeness 7 2 (some .int) ∧ Cond.instanceMethod yX12_likeness ∈ TT ∧ Cond.selects yX12_likeness.cls yX12_likeness yX12_likeness ∈ TT := ⟨⟨TT_6 140 (by decide +kernel) rfl, TT_1 13 (by decide +kernel) rfl, by decide, by decide +kernel⟩, TT_6 139 (by decide +kernel) rfl, TT_0 60 (by decide +kernel) rfl⟩
theorem ceX12_like : gCe yX12_like cX12_like 3 2 (some .int) ∧ Cond.instanceMethod yX12_like ∈ TT ∧ Cond.selects yX12_like.cls yX12_like yX12_like ∈ TT := ⟨⟨TT_6 132 (by decide +kernel) rfl, TT_1 13 (by decide +kernel) rfl, by decide, by decide +kernel⟩, TT_6 130 (by decide +kernel) rfl, TT_6 131 (by decide +kernel) rfl⟩
theorem ceX12_tell : gCe yX12_tell cX12_tell 4 3 (some .int) ∧ Cond.instanceMethod yX12_tell ∈ TT ∧ Cond.selects yX12_tell.cls yX12_tell yX12_tell ∈ TT := ⟨⟨TT_6 144 (by decide +kernel) rfl, TT_1 13 (by decide +kernel) rfl, by decide, by decide +kernel⟩, TT_6 142 (by decide +kernel) rfl, TT_6 143 (by decide +kernel) rfl⟩
theorem ceX12_shopOf : gCe yX12_shopOf cX12_shopOf 5 2 (some .int) ∧ Cond.instanceMethod yX12_shopOf ∈ TT ∧ Cond.selects yX12_shopOf.cls yX12_shopOf yX12_shopOf ∈ TT := ⟨⟨TT_6 154 (by decide +kernel) rfl, TT_1 13 (by decide +kernel) rfl, by decide, by decide +kernel⟩, TT_6 153 (by decide +kernel) rfl, TT_0 61 (by decide +kernel) rfl⟩
theorem ceX12_of : gCe yX12_of cX12_of 3 2 (some .int) ∧ Cond.instanceMethod yX12_of ∈ TT ∧ Cond.selects yX12_of.cls yX12_of yX12_of ∈ TT := ⟨⟨TT_6 150 (by decide +kernel) rfl, TT_1 13 (by decide +kernel) rfl, by decide, by decide +kernel⟩, TT_6 148 (by decide +kernel) rfl, TT_6 149 (by decide +kernel) rfl⟩
theorem ceX12_by : gCe yX12_by cX12_by 10 2 (some .int) ∧ Cond.instanceMethod yX12_by ∈ TT ∧ Cond.selects yX12_by.cls yX12_by yX12_by ∈ TT := ⟨⟨TT_6 158 (by decide +kernel) rfl, TT_1 13 (by decide +kernel) rfl, by decide, by decide +kernel⟩, TT_6 156 (by decide +kernel) rfl, TT_6 157 (by decide +kernel) rfl⟩
theorem ceX12_count : gCe yX12_count cX12_count 2 1 (some .int) ∧ Cond.instanceMethod yX12_count ∈ TT ∧ Cond.selects yX12_count.cls yX12_count yX12_count ∈ TT := ⟨⟨TT_6 162 (by decide +kernel) rfl, TT_1 13 (by decide +kernel) rfl, by decide, by decide +kernel⟩, TT_6 160 (by decide +kernel) rfl, TT_6 161 (by decide +kernel) rfl⟩
theorem ceX12_status : gCe yX12_status cX12_status 1 0 (some .int) ∧ Cond.instanceMethod yX12_status ∈ TT ∧ Cond.selects yX12_status.cls yX12_status yX12_status ∈ TT := ⟨⟨TT_6 166 (by decide +kernel) rfl, TT_1 13 (by decide +kernel) rfl, by decide, by decide +kernel⟩, TT_6 164 (by decide +kernel) rfl, TT_6 165 (by decide +kernel) rfl⟩
theorem ceJ6_bitCount_0f7a4 : gCe yJ6_bitCount_0f7a4 cJ6_bitCount_0f7a4 1 1 (some .int) ∧ Cond.static yJ6_bitCount_0f7a4 ∈ TT := ⟨⟨TT_3 47 (by decide +kernel) rfl, TT_1 16 (by decide +kernel) rfl, by decide, by decide +kernel⟩, TT_3 46 (by decide +kernel) rfl⟩
theorem ceJ9_floorDiv_7cf53 : gCe yJ9_floorDiv_7cf53 cJ9_floorDiv_7cf53 3 2 (some .int) ∧ Cond.static yJ9_floorDiv_7cf53 ∈ TT := ⟨⟨TT_3 151 (by decide +kernel) rfl, TT_1 14 (by decide +kernel) rfl, by decide, by decide +kernel⟩, TT_3 150 (by decide +kernel) rfl⟩
theorem ceJ9_max_7cf53 : gCe yJ9_max_7cf53 cJ9_max_7cf53 2 2 (some .int) ∧ Cond.static yJ9_max_7cf53 ∈ TT := ⟨⟨TT_3 103 (by decide +kernel) rfl, TT_1 14 (by decide +kernel) rfl, by decide, by decide +kernel⟩, TT_3 102 (by decide +kernel) rfl⟩
theorem ceJ9_min_7cf53 : gCe yJ9_min_7cf53 cJ9_min_7cf53 2 2 (some .int) ∧ Cond.static yJ9_min_7cf53 ∈ TT := ⟨⟨TT_2 95 (by decide +kernel) rfl, TT_1 14 (by decide +kernel) rfl, by decide, by decide +kernel⟩, TT_2 94 (by decide +kernel) rfl⟩
theorem ceJ0_length_8abf5 : gCe yJ0_length_8abf5 cJ0_length_8abf5 1 0 (some .int) ∧ Cond.instanceMethod yJ0_length_8abf5 ∈ TT ∧ Cond.selects yJ0_length_8abf5.cls yJ0_length_8abf5 yJ0_length_8abf5 ∈ TT := ⟨⟨TT_4 59 (by decide +kernel) rfl, TT_1 18 (by decide +kernel) rfl, by decide, by decide +kernel⟩, TT_4 57 (by decide +kernel) rfl, TT_4 58 (by decide +kernel) rfl⟩
theorem ceJ0_isEmpty_aae02 : gCe yJ0_isEmpty_aae02 cJ0_isEmpty_aae02 1 0 (some .boolean) ∧ Cond.instanceMethod yJ0_isEmpty_aae02 ∈ TT ∧ Cond.selects yJ0_isEmpty_aae02.cls yJ0_isEmpty_aae02 yJ0_isEmpty_aae02 ∈ TT := ⟨⟨TT_4 115 (by decide +kernel) rfl, TT_1 18 (by decide +kernel) rfl, by decide, by decide +kernel⟩, TT_4 113 (by decide +kernel) rfl, TT_4 114 (by decide +kernel) rfl⟩
theorem ceJ0_charAt_5068e : gCe yJ0_charAt_5068e cJ0_charAt_5068e 2 1 (some .char) ∧ Cond.instanceMethod yJ0_charAt_5068e ∈ TT ∧ Cond.selects yJ0_charAt_5068e.cls yJ0_charAt_5068e yJ0_charAt_5068e ∈ TT := ⟨⟨TT_4 69 (by decide +kernel) rfl, TT_1 18 (by decide +kernel) rfl, by decide, by decide +kernel⟩, TT_4 67 (by decide +kernel) rfl, TT_4 68 (by decide +kernel) rfl⟩
theorem ceJ0_coder_7d493 : gCe yJ0_coder_7d493 cJ0_coder_7d493 1 0 (some .byte) ∧ Cond.instanceMethod yJ0_coder_7d493 ∈ TT ∧ Cond.selects yJ0_coder_7d493.cls yJ0_coder_7d493 yJ0_coder_7d493 ∈ TT := ⟨⟨TT_4 63 (by decide +kernel) rfl, TT_1 18 (by decide +kernel) rfl, by decide, by decide +kernel⟩, TT_4 61 (by decide +kernel) rfl, TT_4 62 (by decide +kernel) rfl⟩
theorem ceJ0_isLatin1_aae02 : gCe yJ0_isLatin1_aae02 cJ0_isLatin1_aae02 1 0 (some .boolean) ∧ Cond.instanceMethod yJ0_isLatin1_aae02 ∈ TT ∧ Cond.selects yJ0_isLatin1_aae02.cls yJ0_isLatin1_aae02 yJ0_isLatin1_aae02 ∈ TT := ⟨⟨TT_4 73 (by decide +kernel) rfl, TT_1 18 (by decide +kernel) rfl, by decide, by decide +kernel⟩, TT_4 71 (by decide +kernel) rfl, TT_4 72 (by decide +kernel) rfl⟩
theorem ceJ0_checkIndex_df160 : gCe yJ0_checkIndex_df160 cJ0_checkIndex_df160 2 2 none ∧ Cond.static yJ0_checkIndex_df160 ∈ TT := ⟨⟨TT_4 79 (by decide +kernel) rfl, TT_1 18 (by decide +kernel) rfl, by decide, by decide +kernel⟩, TT_4 78 (by decide +kernel) rfl⟩
theorem ceJ1_charAt_3b067 : gCe yJ1_charAt_3b067 cJ1_charAt_3b067 2 2 (some .char) ∧ Cond.static yJ1_charAt_3b067 ∈ TT := ⟨⟨TT_4 76 (by decide +kernel) rfl, TT_1 19 (by decide +kernel) rfl, by decide, by decide +kernel⟩, TT_4 75 (by decide +kernel) rfl⟩
theorem ceJ2_getChar_3b067 : gCe yJ2_getChar_3b067 cJ2_getChar_3b067 2 2 (some .char) ∧ Cond.static yJ2_getChar_3b067 ∈ TT := ⟨⟨TT_4 97 (by decide +kernel) rfl, TT_1 21 (by decide +kernel) rfl, by decide, by decide +kernel⟩, TT_4 96 (by decide +kernel) rfl⟩
theorem ceJ2_length_9d52b : gCe yJ2_length_9d52b cJ2_length_9d52b 1 1 (some .int) ∧ Cond.static yJ2_length_9d52b ∈ TT := ⟨⟨TT_4 93 (by decide +kernel) rfl, TT_1 21 (by decide +kernel) rfl, by decide, by decide +kernel⟩, TT_4 92 (by decide +kernel) rfl⟩
theorem ceJ2_charAt_3b067 : gCe yJ2_charAt_3b067 cJ2_charAt_3b067 2 2 (some .char) ∧ Cond.static yJ2_charAt_3b067 ∈ TT := ⟨⟨TT_4 87 (by decide +kernel) rfl, TT_1 21 (by decide +kernel) rfl, by decide, by decide +kernel⟩, TT_4 86 (by decide +kernel) rfl⟩
theorem ceJ2_checkIndex_2214a : gCe yJ2_checkIndex_2214a cJ2_checkIndex_2214a 2 2 none ∧ Cond.static yJ2_checkIndex_2214a ∈ TT := ⟨⟨TT_4 90 (by decide +kernel) rfl, TT_1 21 (by decide +kernel) rfl, by decide, by decide +kernel⟩, TT_4 89 (by decide +kernel) rfl⟩
theorem ceJ7_fill_53178 : gCe yJ7_fill_53178 cJ7_fill_53178 4 2 none ∧ Cond.static yJ7_fill_53178 ∈ TT := ⟨⟨TT_2 102 (by decide +kernel) rfl, TT_1 15 (by decide +kernel) rfl, by decide, by decide +kernel⟩, TT_2 101 (by decide +kernel) rfl⟩
theorem ceJ3_checkIndex_8e157 : gCe yJ3_checkIndex_8e157 cJ3_checkIndex_8e157 3 3 (some .int) ∧ Cond.static yJ3_checkIndex_8e157 ∈ TT := ⟨⟨TT_4 84 (by decide +kernel) rfl, TT_1 20 (by decide +kernel) rfl, by decide, by decide +kernel⟩, TT_4 83 (by decide +kernel) rfl⟩
section GFIELDS
variable {l : Launch} {D : va_G} {cs : gCs} {ad : Nat → Nat} {Z : State → Prop} {d : Nat} {cc : ByteArray} {nL : Nat} {ret : Option FieldType} {G : gG} {Rt : Option Value → gSt → Prop} {pc n : Nat} {lv : List (Option Value)} {st : List Value} {g : gFG} {f : gFF} {w : Int64}
theorem gtX2_9 (h : gSim l D cs layC ad Z d RX2 cc nL ret G Rt) (hd : decode cc pc = .ok (.getfield 9, 3)) (hn : pc + 3 = n) (k : G n lv (.ref (ad 13) :: st) (g, f, w)) : G pc lv (.ref (ad 1) :: st) (g, f, w) := s_get h (C := RX2) (T := TX2) (N := 4) (a := 1) (j := 0) ⟨by decide, rfl, rfl, rfl, by decide⟩ inX2 lfX2_9 rfl hd hn k
theorem gtX2_15 (h : gSim l D cs layC ad Z d RX2 cc nL ret G Rt) (hd : decode cc pc = .ok (.getfield 15, 3)) (hn : pc + 3 = n) (k : G n lv (.int (g 4) :: st) (g, f, w)) : G pc lv (.ref (ad 1) :: st) (g, f, w) := s_get h (C := RX2) (T := TX2) (N := 4) (a := 1) (j := 1) ⟨by decide, rfl, rfl, rfl, by decide⟩ inX2 lfX2_15 rfl hd hn k
theorem ptX2_15 (h : gSim l D cs layC ad Z d RX2 cc nL ret G Rt) {x : Int32} (hd : decode cc pc = .ok (.putfield 15, 3)) (hn : pc + 3 = n) (k : G n lv st (va_up g 4 x, f, w)) : G pc lv (.int x :: .ref (ad 1) :: st) (g, f, w) := s_put h (C := RX2) (T := TX2) (N := 4) (a := 1) (j := 1) (t := 0) (x := x) ⟨by decide, rfl, rfl, rfl, by decide, rfl⟩ (by decide +kernel) inX2 tyX2_ok nmX2 lfX2_15 (by simp only [gfv]; rw [show va_up g 4 x 4 = x from if_pos rfl]) ⟨rfl, rfl⟩ hd hn k
theorem gtX2_19 (h : gSim l D cs layC ad Z d RX2 cc nL ret G Rt) (hd : decode cc pc = .ok (.getfield 19, 3)) (hn : pc + 3 = n) (k : G n lv (.int (g 5) :: st) (g, f, w)) : G pc lv (.ref (ad 1) :: st) (g, f, w) := s_get h (C := RX2) (T := TX2) (N := 4) (a := 1) (j := 2) ⟨by decide, rfl, rfl, rfl, by decide⟩ inX2 lfX2_19 rfl hd hn k
theorem ptX2_19 (h : gSim l D cs layC ad Z d RX2 cc nL ret G Rt) {x : Int32} (hd : decode cc pc = .ok (.putfield 19, 3)) (hn : pc + 3 = n) (k : G n lv st (va_up g 5 x, f, w)) : G pc lv (.int x :: .ref (ad 1) :: st) (g, f, w) := s_put h (C := RX2) (T := TX2) (N := 4) (a := 1) (j := 2) (t := 0) (x := x) ⟨by decide, rfl, rfl, rfl, by decide, rfl⟩ (by decide +kernel) inX2 tyX2_ok nmX2 lfX2_19 (by simp only [gfv]; rw [show va_up g 5 x 5 = x from if_pos rfl]) ⟨rfl, rfl⟩ hd hn k
theorem gtX2_22 (h : gSim l D cs layC ad Z d RX2 cc nL ret G Rt) (hd : decode cc pc = .ok (.getfield 22, 3)) (hn : pc + 3 = n) (k : G n lv (.int (g 6) :: st) (g, f, w)) : G pc lv (.ref (ad 1) :: st) (g, f, w) := s_get h (C := RX2) (T := TX2) (N := 4) (a := 1) (j := 3) ⟨by decide, rfl, rfl, rfl, by decide⟩ inX2 lfX2_22 rfl hd hn k
theorem ptX2_22 (h : gSim l D cs layC ad Z d RX2 cc nL ret G Rt) {x : Int32} (hd : decode cc pc = .ok (.putfield 22, 3)) (hn : pc + 3 = n) (k : G n lv st (va_up g 6 x, f, w)) : G pc lv (.int x :: .ref (ad 1) :: st) (g, f, w) := s_put h (C := RX2) (T := TX2) (N := 4) (a := 1) (j := 3) (t := 0) (x := x) ⟨by decide, rfl, rfl, rfl, by decide, rfl⟩ (by decide +kernel) inX2 tyX2_ok nmX2 lfX2_22 (by simp only [gfv]; rw [show va_up g 6 x 6 = x from if_pos rfl]) ⟨rfl, rfl⟩ hd hn k
theorem gtX1_32 (h : gSim l D cs layC ad Z d RX1 cc nL ret G Rt) (hd : decode cc pc = .ok (.getfield 32, 3)) (hn : pc + 3 = n) (k : G n lv (.ref (ad 1) :: st) (g, f, w)) : G pc lv (.ref (ad 2) :: st) (g, f, w) := s_get h (C := RX1) (T := TX1) (N := 7) (a := 2) (j := 0) ⟨by decide, rfl, rfl, rfl, by decide⟩ inX1 lfX1_32 rfl hd hn k
theorem gtX1_9 (h : gSim l D cs layC ad Z d RX1 cc nL ret G Rt) (hd : decode cc pc = .ok (.getfield 9, 3)) (hn : pc + 3 = n) (k : G n lv (.ref (ad 14) :: st) (g, f, w)) : G pc lv (.ref (ad 2) :: st) (g, f, w) := s_get h (C := RX1) (T := TX1) (N := 7) (a := 2) (j := 1) ⟨by decide, rfl, rfl, rfl, by decide⟩ inX1 lfX1_9 rfl hd hn k
theorem gtX1_15 (h : gSim l D cs layC ad Z d RX1 cc nL ret G Rt) (hd : decode cc pc = .ok (.getfield 15, 3)) (hn : pc + 3 = n) (k : G n lv (.ref (ad 15) :: st) (g, f, w)) : G pc lv (.ref (ad 2) :: st) (g, f, w) := s_get h (C := RX1) (T := TX1) (N := 7) (a := 2) (j := 2) ⟨by decide, rfl, rfl, rfl, by decide⟩ inX1 lfX1_15 rfl hd hn k
theorem gtX1_19 (h : gSim l D cs layC ad Z d RX1 cc nL ret G Rt) (hd : decode cc pc = .ok (.getfield 19, 3)) (hn : pc + 3 = n) (k : G n lv (.ref (ad 16) :: st) (g, f, w)) : G pc lv (.ref (ad 2) :: st) (g, f, w) := s_get h (C := RX1) (T := TX1) (N := 7) (a := 2) (j := 3) ⟨by decide, rfl, rfl, rfl, by decide⟩ inX1 lfX1_19 rfl hd hn k
theorem gtX1_22 (h : gSim l D cs layC ad Z d RX1 cc nL ret G Rt) (hd : decode cc pc = .ok (.getfield 22, 3)) (hn : pc + 3 = n) (k : G n lv (.int (g 7) :: st) (g, f, w)) : G pc lv (.ref (ad 2) :: st) (g, f, w) := s_get h (C := RX1) (T := TX1) (N := 7) (a := 2) (j := 4) ⟨by decide, rfl, rfl, rfl, by decide⟩ inX1 lfX1_22 rfl hd hn k
theorem ptX1_22 (h : gSim l D cs layC ad Z d RX1 cc nL ret G Rt) {x : Int32} (hd : decode cc pc = .ok (.putfield 22, 3)) (hn : pc + 3 = n) (k : G n lv st (va_up g 7 x, f, w)) : G pc lv (.int x :: .ref (ad 2) :: st) (g, f, w) := s_put h (C := RX1) (T := TX1) (N := 7) (a := 2) (j := 4) (t := 0) (x := x) ⟨by decide, rfl, rfl, rfl, by decide, rfl⟩ (by decide +kernel) inX1 tyX1_ok nmX1 lfX1_22 (by simp only [gfv]; rw [show va_up g 7 x 7 = x from if_pos rfl]) ⟨rfl, rfl⟩ hd hn k
theorem gtX1_26 (h : gSim l D cs layC ad Z d RX1 cc nL ret G Rt) (hd : decode cc pc = .ok (.getfield 26, 3)) (hn : pc + 3 = n) (k : G n lv (.int (g 8) :: st) (g, f, w)) : G pc lv (.ref (ad 2) :: st) (g, f, w) := s_get h (C := RX1) (T := TX1) (N := 7) (a := 2) (j := 5) ⟨by decide, rfl, rfl, rfl, by decide⟩ inX1 lfX1_26 rfl hd hn k
theorem ptX1_26 (h : gSim l D cs layC ad Z d RX1 cc nL ret G Rt) {x : Int32} (hd : decode cc pc = .ok (.putfield 26, 3)) (hn : pc + 3 = n) (k : G n lv st (va_up g 8 x, f, w)) : G pc lv (.int x :: .ref (ad 2) :: st) (g, f, w) := s_put h (C := RX1) (T := TX1) (N := 7) (a := 2) (j := 5) (t := 0) (x := x) ⟨by decide, rfl, rfl, rfl, by decide, rfl⟩ (by decide +kernel) inX1 tyX1_ok nmX1 lfX1_26 (by simp only [gfv]; rw [show va_up g 8 x 8 = x from if_pos rfl]) ⟨rfl, rfl⟩ hd hn k
theorem gtX1_29 (h : gSim l D cs layC ad Z d RX1 cc nL ret G Rt) (hd : decode cc pc = .ok (.getfield 29, 3)) (hn : pc + 3 = n) (k : G n lv (.int (g 9) :: st) (g, f, w)) : G pc lv (.ref (ad 2) :: st) (g, f, w) := s_get h (C := RX1) (T := TX1) (N := 7) (a := 2) (j := 6) ⟨by decide, rfl, rfl, rfl, by decide⟩ inX1 lfX1_29 rfl hd hn k
theorem ptX1_29 (h : gSim l D cs layC ad Z d RX1 cc nL ret G Rt) {x : Int32} (hd : decode cc pc = .ok (.putfield 29, 3)) (hn : pc + 3 = n) (k : G n lv st (va_up g 9 x, f, w)) : G pc lv (.int x :: .ref (ad 2) :: st) (g, f, w) := s_put h (C := RX1) (T := TX1) (N := 7) (a := 2) (j := 6) (t := 0) (x := x) ⟨by decide, rfl, rfl, rfl, by decide, rfl⟩ (by decide +kernel) inX1 tyX1_ok nmX1 lfX1_29 (by simp only [gfv]; rw [show va_up g 9 x 9 = x from if_pos rfl]) ⟨rfl, rfl⟩ hd hn k
theorem gtX8_31 (h : gSim l D cs layC ad Z d RX8 cc nL ret G Rt) (hd : decode cc pc = .ok (.getfield 31, 3)) (hn : pc + 3 = n) (k : G n lv (.ref (ad 1) :: st) (g, f, w)) : G pc lv (.ref (ad 3) :: st) (g, f, w) := s_get h (C := RX8) (T := TX8) (N := 7) (a := 3) (j := 0) ⟨by decide, rfl, rfl, rfl, by decide⟩ inX8 lfX8_31 rfl hd hn k
theorem gtX8_9 (h : gSim l D cs layC ad Z d RX8 cc nL ret G Rt) (hd : decode cc pc = .ok (.getfield 9, 3)) (hn : pc + 3 = n) (k : G n lv (.ref (ad 17) :: st) (g, f, w)) : G pc lv (.ref (ad 3) :: st) (g, f, w) := s_get h (C := RX8) (T := TX8) (N := 7) (a := 3) (j := 1) ⟨by decide, rfl, rfl, rfl, by decide⟩ inX8 lfX8_9 rfl hd hn k
theorem gtX8_15 (h : gSim l D cs layC ad Z d RX8 cc nL ret G Rt) (hd : decode cc pc = .ok (.getfield 15, 3)) (hn : pc + 3 = n) (k : G n lv (.ref (ad 18) :: st) (g, f, w)) : G pc lv (.ref (ad 3) :: st) (g, f, w) := s_get h (C := RX8) (T := TX8) (N := 7) (a := 3) (j := 2) ⟨by decide, rfl, rfl, rfl, by decide⟩ inX8 lfX8_15 rfl hd hn k
theorem gtX8_18 (h : gSim l D cs layC ad Z d RX8 cc nL ret G Rt) (hd : decode cc pc = .ok (.getfield 18, 3)) (hn : pc + 3 = n) (k : G n lv (.ref (ad 19) :: st) (g, f, w)) : G pc lv (.ref (ad 3) :: st) (g, f, w) := s_get h (C := RX8) (T := TX8) (N := 7) (a := 3) (j := 3) ⟨by decide, rfl, rfl, rfl, by decide⟩ inX8 lfX8_18 rfl hd hn k
theorem gtX8_21 (h : gSim l D cs layC ad Z d RX8 cc nL ret G Rt) (hd : decode cc pc = .ok (.getfield 21, 3)) (hn : pc + 3 = n) (k : G n lv (.int (g 10) :: st) (g, f, w)) : G pc lv (.ref (ad 3) :: st) (g, f, w) := s_get h (C := RX8) (T := TX8) (N := 7) (a := 3) (j := 4) ⟨by decide, rfl, rfl, rfl, by decide⟩ inX8 lfX8_21 rfl hd hn k
theorem ptX8_21 (h : gSim l D cs layC ad Z d RX8 cc nL ret G Rt) {x : Int32} (hd : decode cc pc = .ok (.putfield 21, 3)) (hn : pc + 3 = n) (k : G n lv st (va_up g 10 x, f, w)) : G pc lv (.int x :: .ref (ad 3) :: st) (g, f, w) := s_put h (C := RX8) (T := TX8) (N := 7) (a := 3) (j := 4) (t := 0) (x := x) ⟨by decide, rfl, rfl, rfl, by decide, rfl⟩ (by decide +kernel) inX8 tyX8_ok nmX8 lfX8_21 (by simp only [gfv]; rw [show va_up g 10 x 10 = x from if_pos rfl]) ⟨rfl, rfl⟩ hd hn k
theorem gtX8_25 (h : gSim l D cs layC ad Z d RX8 cc nL ret G Rt) (hd : decode cc pc = .ok (.getfield 25, 3)) (hn : pc + 3 = n) (k : G n lv (.int (g 11) :: st) (g, f, w)) : G pc lv (.ref (ad 3) :: st) (g, f, w) := s_get h (C := RX8) (T := TX8) (N := 7) (a := 3) (j := 5) ⟨by decide, rfl, rfl, rfl, by decide⟩ inX8 lfX8_25 rfl hd hn k
theorem ptX8_25 (h : gSim l D cs layC ad Z d RX8 cc nL ret G Rt) {x : Int32} (hd : decode cc pc = .ok (.putfield 25, 3)) (hn : pc + 3 = n) (k : G n lv st (va_up g 11 x, f, w)) : G pc lv (.int x :: .ref (ad 3) :: st) (g, f, w) := s_put h (C := RX8) (T := TX8) (N := 7) (a := 3) (j := 5) (t := 0) (x := x) ⟨by decide, rfl, rfl, rfl, by decide, rfl⟩ (by decide +kernel) inX8 tyX8_ok nmX8 lfX8_25 (by simp only [gfv]; rw [show va_up g 11 x 11 = x from if_pos rfl]) ⟨rfl, rfl⟩ hd hn k
theorem gtX8_28 (h : gSim l D cs layC ad Z d RX8 cc nL ret G Rt) (hd : decode cc pc = .ok (.getfield 28, 3)) (hn : pc + 3 = n) (k : G n lv (.int (g 12) :: st) (g, f, w)) : G pc lv (.ref (ad 3) :: st) (g, f, w) := s_get h (C := RX8) (T := TX8) (N := 7) (a := 3) (j := 6) ⟨by decide, rfl, rfl, rfl, by decide⟩ inX8 lfX8_28 rfl hd hn k
theorem ptX8_28 (h : gSim l D cs layC ad Z d RX8 cc nL ret G Rt) {x : Int32} (hd : decode cc pc = .ok (.putfield 28, 3)) (hn : pc + 3 = n) (k : G n lv st (va_up g 12 x, f, w)) : G pc lv (.int x :: .ref (ad 3) :: st) (g, f, w) := s_put h (C := RX8) (T := TX8) (N := 7) (a := 3) (j := 6) (t := 0) (x := x) ⟨by decide, rfl, rfl, rfl, by decide, rfl⟩ (by decide +kernel) inX8 tyX8_ok nmX8 lfX8_28 (by simp only [gfv]; rw [show va_up g 12 x 12 = x from if_pos rfl]) ⟨rfl, rfl⟩ hd hn k
theorem gtX4_9 (h : gSim l D cs layC ad Z d RX4 cc nL ret G Rt) (hd : decode cc pc = .ok (.getfield 9, 3)) (hn : pc + 3 = n) (k : G n lv (.ref (ad 20) :: st) (g, f, w)) : G pc lv (.ref (ad 4) :: st) (g, f, w) := s_get h (C := RX4) (T := TX4) (N := 5) (a := 4) (j := 0) ⟨by decide, rfl, rfl, rfl, by decide⟩ inX4 lfX4_9 rfl hd hn k
theorem gtX4_15 (h : gSim l D cs layC ad Z d RX4 cc nL ret G Rt) (hd : decode cc pc = .ok (.getfield 15, 3)) (hn : pc + 3 = n) (k : G n lv (.ref (ad 21) :: st) (g, f, w)) : G pc lv (.ref (ad 4) :: st) (g, f, w) := s_get h (C := RX4) (T := TX4) (N := 5) (a := 4) (j := 1) ⟨by decide, rfl, rfl, rfl, by decide⟩ inX4 lfX4_15 rfl hd hn k
theorem gtX4_18 (h : gSim l D cs layC ad Z d RX4 cc nL ret G Rt) (hd : decode cc pc = .ok (.getfield 18, 3)) (hn : pc + 3 = n) (k : G n lv (.ref (ad 22) :: st) (g, f, w)) : G pc lv (.ref (ad 4) :: st) (g, f, w) := s_get h (C := RX4) (T := TX4) (N := 5) (a := 4) (j := 2) ⟨by decide, rfl, rfl, rfl, by decide⟩ inX4 lfX4_18 rfl hd hn k
theorem gtX4_21 (h : gSim l D cs layC ad Z d RX4 cc nL ret G Rt) (hd : decode cc pc = .ok (.getfield 21, 3)) (hn : pc + 3 = n) (k : G n lv (.ref (ad 23) :: st) (g, f, w)) : G pc lv (.ref (ad 4) :: st) (g, f, w) := s_get h (C := RX4) (T := TX4) (N := 5) (a := 4) (j := 3) ⟨by decide, rfl, rfl, rfl, by decide⟩ inX4 lfX4_21 rfl hd hn k
theorem gtX4_24 (h : gSim l D cs layC ad Z d RX4 cc nL ret G Rt) (hd : decode cc pc = .ok (.getfield 24, 3)) (hn : pc + 3 = n) (k : G n lv (.int (g 13) :: st) (g, f, w)) : G pc lv (.ref (ad 4) :: st) (g, f, w) := s_get h (C := RX4) (T := TX4) (N := 5) (a := 4) (j := 4) ⟨by decide, rfl, rfl, rfl, by decide⟩ inX4 lfX4_24 rfl hd hn k
theorem ptX4_24 (h : gSim l D cs layC ad Z d RX4 cc nL ret G Rt) {x : Int32} (hd : decode cc pc = .ok (.putfield 24, 3)) (hn : pc + 3 = n) (k : G n lv st (va_up g 13 x, f, w)) : G pc lv (.int x :: .ref (ad 4) :: st) (g, f, w) := s_put h (C := RX4) (T := TX4) (N := 5) (a := 4) (j := 4) (t := 0) (x := x) ⟨by decide, rfl, rfl, rfl, by decide, rfl⟩ (by decide +kernel) inX4 tyX4_ok nmX4 lfX4_24 (by simp only [gfv]; rw [show va_up g 13 x 13 = x from if_pos rfl]) ⟨rfl, rfl⟩ hd hn k
theorem gtX0_15 (h : gSim l D cs layC ad Z d RX0 cc nL ret G Rt) (hd : decode cc pc = .ok (.getfield 15, 3)) (hn : pc + 3 = n) (k : G n lv (.ref (ad 4) :: st) (g, f, w)) : G pc lv (.ref (ad 6) :: st) (g, f, w) := s_get h (C := RX0) (T := TX0) (N := 2) (a := 6) (j := 0) ⟨by decide, rfl, rfl, rfl, by decide⟩ inX0 lfX0_15 rfl hd hn k
theorem gtX0_9 (h : gSim l D cs layC ad Z d RX0 cc nL ret G Rt) (hd : decode cc pc = .ok (.getfield 9, 3)) (hn : pc + 3 = n) (k : G n lv (.ref (ad 43) :: st) (g, f, w)) : G pc lv (.ref (ad 6) :: st) (g, f, w) := s_get h (C := RX0) (T := TX0) (N := 2) (a := 6) (j := 1) ⟨by decide, rfl, rfl, rfl, by decide⟩ inX0 lfX0_9 rfl hd hn k
theorem gtX9_9 (h : gSim l D cs layC ad Z d RX9 cc nL ret G Rt) (hd : decode cc pc = .ok (.getfield 9, 3)) (hn : pc + 3 = n) (k : G n lv (.ref (ad 44) :: st) (g, f, w)) : G pc lv (.ref (ad 7) :: st) (g, f, w) := s_get h (C := RX9) (T := TX9) (N := 2) (a := 7) (j := 0) ⟨by decide, rfl, rfl, rfl, by decide⟩ inX9 lfX9_9 rfl hd hn k
theorem gtX9_15 (h : gSim l D cs layC ad Z d RX9 cc nL ret G Rt) (hd : decode cc pc = .ok (.getfield 15, 3)) (hn : pc + 3 = n) (k : G n lv (.int (g 18) :: st) (g, f, w)) : G pc lv (.ref (ad 7) :: st) (g, f, w) := s_get h (C := RX9) (T := TX9) (N := 2) (a := 7) (j := 1) ⟨by decide, rfl, rfl, rfl, by decide⟩ inX9 lfX9_15 rfl hd hn k
theorem ptX9_15 (h : gSim l D cs layC ad Z d RX9 cc nL ret G Rt) {x : Int32} (hd : decode cc pc = .ok (.putfield 15, 3)) (hn : pc + 3 = n) (k : G n lv st (va_up g 18 x, f, w)) : G pc lv (.int x :: .ref (ad 7) :: st) (g, f, w) := s_put h (C := RX9) (T := TX9) (N := 2) (a := 7) (j := 1) (t := 0) (x := x) ⟨by decide, rfl, rfl, rfl, by decide, rfl⟩ (by decide +kernel) inX9 tyX9_ok nmX9 lfX9_15 (by simp only [gfv]; rw [show va_up g 18 x 18 = x from if_pos rfl]) ⟨rfl, rfl⟩ hd hn k
theorem gtX5_49 (h : gSim l D cs layC ad Z d RX5 cc nL ret G Rt) (hd : decode cc pc = .ok (.getfield 49, 3)) (hn : pc + 3 = n) (k : G n lv (.ref (ad 4) :: st) (g, f, w)) : G pc lv (.ref (ad 5) :: st) (g, f, w) := s_get h (C := RX5) (T := TX5) (N := 12) (a := 5) (j := 0) ⟨by decide, rfl, rfl, rfl, by decide⟩ inX5 lfX5_49 rfl hd hn k
theorem gtX5_13 (h : gSim l D cs layC ad Z d RX5 cc nL ret G Rt) (hd : decode cc pc = .ok (.getfield 13, 3)) (hn : pc + 3 = n) (k : G n lv (.ref (ad 24) :: st) (g, f, w)) : G pc lv (.ref (ad 5) :: st) (g, f, w) := s_get h (C := RX5) (T := TX5) (N := 12) (a := 5) (j := 1) ⟨by decide, rfl, rfl, rfl, by decide⟩ inX5 lfX5_13 rfl hd hn k
theorem gtX5_16 (h : gSim l D cs layC ad Z d RX5 cc nL ret G Rt) (hd : decode cc pc = .ok (.getfield 16, 3)) (hn : pc + 3 = n) (k : G n lv (.ref (ad 25) :: st) (g, f, w)) : G pc lv (.ref (ad 5) :: st) (g, f, w) := s_get h (C := RX5) (T := TX5) (N := 12) (a := 5) (j := 2) ⟨by decide, rfl, rfl, rfl, by decide⟩ inX5 lfX5_16 rfl hd hn k
theorem gtX5_19 (h : gSim l D cs layC ad Z d RX5 cc nL ret G Rt) (hd : decode cc pc = .ok (.getfield 19, 3)) (hn : pc + 3 = n) (k : G n lv (.ref (ad 26) :: st) (g, f, w)) : G pc lv (.ref (ad 5) :: st) (g, f, w) := s_get h (C := RX5) (T := TX5) (N := 12) (a := 5) (j := 3) ⟨by decide, rfl, rfl, rfl, by decide⟩ inX5 lfX5_19 rfl hd hn k
theorem gtX5_22 (h : gSim l D cs layC ad Z d RX5 cc nL ret G Rt) (hd : decode cc pc = .ok (.getfield 22, 3)) (hn : pc + 3 = n) (k : G n lv (.ref (ad 27) :: st) (g, f, w)) : G pc lv (.ref (ad 5) :: st) (g, f, w) := s_get h (C := RX5) (T := TX5) (N := 12) (a := 5) (j := 4) ⟨by decide, rfl, rfl, rfl, by decide⟩ inX5 lfX5_22 rfl hd hn k
theorem gtX5_26 (h : gSim l D cs layC ad Z d RX5 cc nL ret G Rt) (hd : decode cc pc = .ok (.getfield 26, 3)) (hn : pc + 3 = n) (k : G n lv (.ref (ad 28) :: st) (g, f, w)) : G pc lv (.ref (ad 5) :: st) (g, f, w) := s_get h (C := RX5) (T := TX5) (N := 12) (a := 5) (j := 5) ⟨by decide, rfl, rfl, rfl, by decide⟩ inX5 lfX5_26 rfl hd hn k
theorem gtX5_29 (h : gSim l D cs layC ad Z d RX5 cc nL ret G Rt) (hd : decode cc pc = .ok (.getfield 29, 3)) (hn : pc + 3 = n) (k : G n lv (.ref (ad 29) :: st) (g, f, w)) : G pc lv (.ref (ad 5) :: st) (g, f, w) := s_get h (C := RX5) (T := TX5) (N := 12) (a := 5) (j := 6) ⟨by decide, rfl, rfl, rfl, by decide⟩ inX5 lfX5_29 rfl hd hn k
theorem gtX5_32 (h : gSim l D cs layC ad Z d RX5 cc nL ret G Rt) (hd : decode cc pc = .ok (.getfield 32, 3)) (hn : pc + 3 = n) (k : G n lv (.ref (ad 30) :: st) (g, f, w)) : G pc lv (.ref (ad 5) :: st) (g, f, w) := s_get h (C := RX5) (T := TX5) (N := 12) (a := 5) (j := 7) ⟨by decide, rfl, rfl, rfl, by decide⟩ inX5 lfX5_32 rfl hd hn k
theorem gtX5_35 (h : gSim l D cs layC ad Z d RX5 cc nL ret G Rt) (hd : decode cc pc = .ok (.getfield 35, 3)) (hn : pc + 3 = n) (k : G n lv (.int (g 14) :: st) (g, f, w)) : G pc lv (.ref (ad 5) :: st) (g, f, w) := s_get h (C := RX5) (T := TX5) (N := 12) (a := 5) (j := 8) ⟨by decide, rfl, rfl, rfl, by decide⟩ inX5 lfX5_35 rfl hd hn k
theorem ptX5_35 (h : gSim l D cs layC ad Z d RX5 cc nL ret G Rt) {x : Int32} (hd : decode cc pc = .ok (.putfield 35, 3)) (hn : pc + 3 = n) (k : G n lv st (va_up g 14 x, f, w)) : G pc lv (.int x :: .ref (ad 5) :: st) (g, f, w) := s_put h (C := RX5) (T := TX5) (N := 12) (a := 5) (j := 8) (t := 0) (x := x) ⟨by decide, rfl, rfl, rfl, by decide, rfl⟩ (by decide +kernel) inX5 tyX5_ok nmX5 lfX5_35 (by simp only [gfv]; rw [show va_up g 14 x 14 = x from if_pos rfl]) ⟨rfl, rfl⟩ hd hn k
theorem gtX5_39 (h : gSim l D cs layC ad Z d RX5 cc nL ret G Rt) (hd : decode cc pc = .ok (.getfield 39, 3)) (hn : pc + 3 = n) (k : G n lv (.int (g 15) :: st) (g, f, w)) : G pc lv (.ref (ad 5) :: st) (g, f, w) := s_get h (C := RX5) (T := TX5) (N := 12) (a := 5) (j := 9) ⟨by decide, rfl, rfl, rfl, by decide⟩ inX5 lfX5_39 rfl hd hn k
theorem ptX5_39 (h : gSim l D cs layC ad Z d RX5 cc nL ret G Rt) {x : Int32} (hd : decode cc pc = .ok (.putfield 39, 3)) (hn : pc + 3 = n) (k : G n lv st (va_up g 15 x, f, w)) : G pc lv (.int x :: .ref (ad 5) :: st) (g, f, w) := s_put h (C := RX5) (T := TX5) (N := 12) (a := 5) (j := 9) (t := 0) (x := x) ⟨by decide, rfl, rfl, rfl, by decide, rfl⟩ (by decide +kernel) inX5 tyX5_ok nmX5 lfX5_39 (by simp only [gfv]; rw [show va_up g 15 x 15 = x from if_pos rfl]) ⟨rfl, rfl⟩ hd hn k
theorem gtX5_42 (h : gSim l D cs layC ad Z d RX5 cc nL ret G Rt) (hd : decode cc pc = .ok (.getfield 42, 3)) (hn : pc + 3 = n) (k : G n lv (.int (g 16) :: st) (g, f, w)) : G pc lv (.ref (ad 5) :: st) (g, f, w) := s_get h (C := RX5) (T := TX5) (N := 12) (a := 5) (j := 10) ⟨by decide, rfl, rfl, rfl, by decide⟩ inX5 lfX5_42 rfl hd hn k
theorem ptX5_42 (h : gSim l D cs layC ad Z d RX5 cc nL ret G Rt) {x : Int32} (hd : decode cc pc = .ok (.putfield 42, 3)) (hn : pc + 3 = n) (k : G n lv st (va_up g 16 x, f, w)) : G pc lv (.int x :: .ref (ad 5) :: st) (g, f, w) := s_put h (C := RX5) (T := TX5) (N := 12) (a := 5) (j := 10) (t := 0) (x := x) ⟨by decide, rfl, rfl, rfl, by decide, rfl⟩ (by decide +kernel) inX5 tyX5_ok nmX5 lfX5_42 (by simp only [gfv]; rw [show va_up g 16 x 16 = x from if_pos rfl]) ⟨rfl, rfl⟩ hd hn k
theorem gtX5_45 (h : gSim l D cs layC ad Z d RX5 cc nL ret G Rt) (hd : decode cc pc = .ok (.getfield 45, 3)) (hn : pc + 3 = n) (k : G n lv (.int (g 17) :: st) (g, f, w)) : G pc lv (.ref (ad 5) :: st) (g, f, w) := s_get h (C := RX5) (T := TX5) (N := 12) (a := 5) (j := 11) ⟨by decide, rfl, rfl, rfl, by decide⟩ inX5 lfX5_45 rfl hd hn k
theorem ptX5_45 (h : gSim l D cs layC ad Z d RX5 cc nL ret G Rt) {x : Int32} (hz : gz x) (hd : decode cc pc = .ok (.putfield 45, 3)) (hn : pc + 3 = n) (k : G n lv st (va_up g 17 x, f, w)) : G pc lv (.int x :: .ref (ad 5) :: st) (g, f, w) := s_put h (C := RX5) (T := TX5) (N := 12) (a := 5) (j := 11) (t := 0) (x := x) ⟨by decide, rfl, rfl, rfl, by decide, rfl⟩ (by decide +kernel) inX5 tyX5_ok nmX5 lfX5_45 (by simp only [gfv]; rw [show va_up g 17 x 17 = x from if_pos rfl]) ⟨gz_n hz, by rcases hz with rfl | rfl <;> decide⟩ hd hn k
theorem gtX7_18 (h : gSim l D cs layC ad Z d RX7 cc nL ret G Rt) (hd : decode cc pc = .ok (.getfield 18, 3)) (hn : pc + 3 = n) (k : G n lv (.ref (ad 7) :: st) (g, f, w)) : G pc lv (.ref (ad 8) :: st) (g, f, w) := s_get h (C := RX7) (T := TX7) (N := 3) (a := 8) (j := 0) ⟨by decide, rfl, rfl, rfl, by decide⟩ inX7 lfX7_18 rfl hd hn k
theorem gtX7_9 (h : gSim l D cs layC ad Z d RX7 cc nL ret G Rt) (hd : decode cc pc = .ok (.getfield 9, 3)) (hn : pc + 3 = n) (k : G n lv (.int (g 19) :: st) (g, f, w)) : G pc lv (.ref (ad 8) :: st) (g, f, w) := s_get h (C := RX7) (T := TX7) (N := 3) (a := 8) (j := 1) ⟨by decide, rfl, rfl, rfl, by decide⟩ inX7 lfX7_9 rfl hd hn k
theorem ptX7_9 (h : gSim l D cs layC ad Z d RX7 cc nL ret G Rt) {x : Int32} (hd : decode cc pc = .ok (.putfield 9, 3)) (hn : pc + 3 = n) (k : G n lv st (va_up g 19 x, f, w)) : G pc lv (.int x :: .ref (ad 8) :: st) (g, f, w) := s_put h (C := RX7) (T := TX7) (N := 3) (a := 8) (j := 1) (t := 0) (x := x) ⟨by decide, rfl, rfl, rfl, by decide, rfl⟩ (by decide +kernel) inX7 tyX7_ok nmX7 lfX7_9 (by simp only [gfv]; rw [show va_up g 19 x 19 = x from if_pos rfl]) ⟨rfl, rfl⟩ hd hn k
theorem gtX7_15 (h : gSim l D cs layC ad Z d RX7 cc nL ret G Rt) (hd : decode cc pc = .ok (.getfield 15, 3)) (hn : pc + 3 = n) (k : G n lv (.int (g 20) :: st) (g, f, w)) : G pc lv (.ref (ad 8) :: st) (g, f, w) := s_get h (C := RX7) (T := TX7) (N := 3) (a := 8) (j := 2) ⟨by decide, rfl, rfl, rfl, by decide⟩ inX7 lfX7_15 rfl hd hn k
theorem ptX7_15 (h : gSim l D cs layC ad Z d RX7 cc nL ret G Rt) {x : Int32} (hd : decode cc pc = .ok (.putfield 15, 3)) (hn : pc + 3 = n) (k : G n lv st (va_up g 20 x, f, w)) : G pc lv (.int x :: .ref (ad 8) :: st) (g, f, w) := s_put h (C := RX7) (T := TX7) (N := 3) (a := 8) (j := 2) (t := 0) (x := x) ⟨by decide, rfl, rfl, rfl, by decide, rfl⟩ (by decide +kernel) inX7 tyX7_ok nmX7 lfX7_15 (by simp only [gfv]; rw [show va_up g 20 x 20 = x from if_pos rfl]) ⟨rfl, rfl⟩ hd hn k
theorem gtX3_9 (h : gSim l D cs layC ad Z d RX3 cc nL ret G Rt) (hd : decode cc pc = .ok (.getfield 9, 3)) (hn : pc + 3 = n) (k : G n lv (.ref (ad 2) :: st) (g, f, w)) : G pc lv (.ref (ad 9) :: st) (g, f, w) := s_get h (C := RX3) (T := TX3) (N := 3) (a := 9) (j := 0) ⟨by decide, rfl, rfl, rfl, by decide⟩ inX3 lfX3_9 rfl hd hn k
theorem gtX3_15 (h : gSim l D cs layC ad Z d RX3 cc nL ret G Rt) (hd : decode cc pc = .ok (.getfield 15, 3)) (hn : pc + 3 = n) (k : G n lv (.ref (ad 3) :: st) (g, f, w)) : G pc lv (.ref (ad 9) :: st) (g, f, w) := s_get h (C := RX3) (T := TX3) (N := 3) (a := 9) (j := 1) ⟨by decide, rfl, rfl, rfl, by decide⟩ inX3 lfX3_15 rfl hd hn k
theorem gtX3_19 (h : gSim l D cs layC ad Z d RX3 cc nL ret G Rt) (hd : decode cc pc = .ok (.getfield 19, 3)) (hn : pc + 3 = n) (k : G n lv (.ref (ad 6) :: st) (g, f, w)) : G pc lv (.ref (ad 9) :: st) (g, f, w) := s_get h (C := RX3) (T := TX3) (N := 3) (a := 9) (j := 2) ⟨by decide, rfl, rfl, rfl, by decide⟩ inX3 lfX3_19 rfl hd hn k
theorem gtX10_9 (h : gSim l D cs layC ad Z d RX10 cc nL ret G Rt) (hd : decode cc pc = .ok (.getfield 9, 3)) (hn : pc + 3 = n) (k : G n lv (.ref (ad 51) :: st) (g, f, w)) : G pc lv (.ref (ad 10) :: st) (g, f, w) := s_get h (C := RX10) (T := TX10) (N := 8) (a := 10) (j := 0) ⟨by decide, rfl, rfl, rfl, by decide⟩ inX10 lfX10_9 rfl hd hn k
theorem gtX10_15 (h : gSim l D cs layC ad Z d RX10 cc nL ret G Rt) (hd : decode cc pc = .ok (.getfield 15, 3)) (hn : pc + 3 = n) (k : G n lv (.ref (ad 52) :: st) (g, f, w)) : G pc lv (.ref (ad 10) :: st) (g, f, w) := s_get h (C := RX10) (T := TX10) (N := 8) (a := 10) (j := 1) ⟨by decide, rfl, rfl, rfl, by decide⟩ inX10 lfX10_15 rfl hd hn k
theorem gtX10_18 (h : gSim l D cs layC ad Z d RX10 cc nL ret G Rt) (hd : decode cc pc = .ok (.getfield 18, 3)) (hn : pc + 3 = n) (k : G n lv (.ref (ad 53) :: st) (g, f, w)) : G pc lv (.ref (ad 10) :: st) (g, f, w) := s_get h (C := RX10) (T := TX10) (N := 8) (a := 10) (j := 2) ⟨by decide, rfl, rfl, rfl, by decide⟩ inX10 lfX10_18 rfl hd hn k
theorem gtX10_21 (h : gSim l D cs layC ad Z d RX10 cc nL ret G Rt) (hd : decode cc pc = .ok (.getfield 21, 3)) (hn : pc + 3 = n) (k : G n lv (.ref (ad 54) :: st) (g, f, w)) : G pc lv (.ref (ad 10) :: st) (g, f, w) := s_get h (C := RX10) (T := TX10) (N := 8) (a := 10) (j := 3) ⟨by decide, rfl, rfl, rfl, by decide⟩ inX10 lfX10_21 rfl hd hn k
theorem gtX10_24 (h : gSim l D cs layC ad Z d RX10 cc nL ret G Rt) (hd : decode cc pc = .ok (.getfield 24, 3)) (hn : pc + 3 = n) (k : G n lv (.ref (ad 55) :: st) (g, f, w)) : G pc lv (.ref (ad 10) :: st) (g, f, w) := s_get h (C := RX10) (T := TX10) (N := 8) (a := 10) (j := 4) ⟨by decide, rfl, rfl, rfl, by decide⟩ inX10 lfX10_24 rfl hd hn k
theorem gtX10_27 (h : gSim l D cs layC ad Z d RX10 cc nL ret G Rt) (hd : decode cc pc = .ok (.getfield 27, 3)) (hn : pc + 3 = n) (k : G n lv (.ref (ad 56) :: st) (g, f, w)) : G pc lv (.ref (ad 10) :: st) (g, f, w) := s_get h (C := RX10) (T := TX10) (N := 8) (a := 10) (j := 5) ⟨by decide, rfl, rfl, rfl, by decide⟩ inX10 lfX10_27 rfl hd hn k
theorem gtX10_30 (h : gSim l D cs layC ad Z d RX10 cc nL ret G Rt) (hd : decode cc pc = .ok (.getfield 30, 3)) (hn : pc + 3 = n) (k : G n lv (.int (g 21) :: st) (g, f, w)) : G pc lv (.ref (ad 10) :: st) (g, f, w) := s_get h (C := RX10) (T := TX10) (N := 8) (a := 10) (j := 6) ⟨by decide, rfl, rfl, rfl, by decide⟩ inX10 lfX10_30 rfl hd hn k
theorem ptX10_30 (h : gSim l D cs layC ad Z d RX10 cc nL ret G Rt) {x : Int32} (hd : decode cc pc = .ok (.putfield 30, 3)) (hn : pc + 3 = n) (k : G n lv st (va_up g 21 x, f, w)) : G pc lv (.int x :: .ref (ad 10) :: st) (g, f, w) := s_put h (C := RX10) (T := TX10) (N := 8) (a := 10) (j := 6) (t := 0) (x := x) ⟨by decide, rfl, rfl, rfl, by decide, rfl⟩ (by decide +kernel) inX10 tyX10_ok nmX10 lfX10_30 (by simp only [gfv]; rw [show va_up g 21 x 21 = x from if_pos rfl]) ⟨rfl, rfl⟩ hd hn k
theorem gtX10_34 (h : gSim l D cs layC ad Z d RX10 cc nL ret G Rt) (hd : decode cc pc = .ok (.getfield 34, 3)) (hn : pc + 3 = n) (k : G n lv (.int (g 22) :: st) (g, f, w)) : G pc lv (.ref (ad 10) :: st) (g, f, w) := s_get h (C := RX10) (T := TX10) (N := 8) (a := 10) (j := 7) ⟨by decide, rfl, rfl, rfl, by decide⟩ inX10 lfX10_34 rfl hd hn k
theorem ptX10_34 (h : gSim l D cs layC ad Z d RX10 cc nL ret G Rt) {x : Int32} (hd : decode cc pc = .ok (.putfield 34, 3)) (hn : pc + 3 = n) (k : G n lv st (va_up g 22 x, f, w)) : G pc lv (.int x :: .ref (ad 10) :: st) (g, f, w) := s_put h (C := RX10) (T := TX10) (N := 8) (a := 10) (j := 7) (t := 0) (x := x) ⟨by decide, rfl, rfl, rfl, by decide, rfl⟩ (by decide +kernel) inX10 tyX10_ok nmX10 lfX10_34 (by simp only [gfv]; rw [show va_up g 22 x 22 = x from if_pos rfl]) ⟨rfl, rfl⟩ hd hn k
theorem gtX6_9 (h : gSim l D cs layC ad Z d RX6 cc nL ret G Rt) {b : Int32} (hd : decode cc pc = .ok (.getfield 9, 3)) (hn : pc + 3 = n) (k : G n lv (.ref (ad (gbq 45 b)) :: st) (g, f, w)) : G pc lv (.ref (ad (gbk b)) :: st) (g, f, w) := by
  unfold gbk gbq at *
  split at k <;> rename_i hb
  · rw [if_pos hb]; exact s_get h (C := RX6) (T := TX6) (N := 4) (a := 11) (j := 0) ⟨by decide, rfl, rfl, rfl, by decide⟩ inX6 lfX6_9 rfl hd hn k
  · rw [if_neg hb]; exact s_get h (C := RX6) (T := TX6) (N := 4) (a := 12) (j := 0) ⟨by decide, rfl, rfl, rfl, by decide⟩ inX6 lfX6_9 rfl hd hn k
theorem gtX6_15 (h : gSim l D cs layC ad Z d RX6 cc nL ret G Rt) {b : Int32} (hd : decode cc pc = .ok (.getfield 15, 3)) (hn : pc + 3 = n) (k : G n lv (.ref (ad (gbq 46 b)) :: st) (g, f, w)) : G pc lv (.ref (ad (gbk b)) :: st) (g, f, w) := by
  unfold gbk gbq at *
  split at k <;> rename_i hb
  · rw [if_pos hb]; exact s_get h (C := RX6) (T := TX6) (N := 4) (a := 11) (j := 1) ⟨by decide, rfl, rfl, rfl, by decide⟩ inX6 lfX6_15 rfl hd hn k
  · rw [if_neg hb]; exact s_get h (C := RX6) (T := TX6) (N := 4) (a := 12) (j := 1) ⟨by decide, rfl, rfl, rfl, by decide⟩ inX6 lfX6_15 rfl hd hn k
theorem gtX6_18 (h : gSim l D cs layC ad Z d RX6 cc nL ret G Rt) {b : Int32} (hd : decode cc pc = .ok (.getfield 18, 3)) (hn : pc + 3 = n) (k : G n lv (.ref (ad (gbq 47 b)) :: st) (g, f, w)) : G pc lv (.ref (ad (gbk b)) :: st) (g, f, w) := by
  unfold gbk gbq at *
  split at k <;> rename_i hb
  · rw [if_pos hb]; exact s_get h (C := RX6) (T := TX6) (N := 4) (a := 11) (j := 2) ⟨by decide, rfl, rfl, rfl, by decide⟩ inX6 lfX6_18 rfl hd hn k
  · rw [if_neg hb]; exact s_get h (C := RX6) (T := TX6) (N := 4) (a := 12) (j := 2) ⟨by decide, rfl, rfl, rfl, by decide⟩ inX6 lfX6_18 rfl hd hn k
theorem gtX6_21 (h : gSim l D cs layC ad Z d RX6 cc nL ret G Rt) {b : Int32} (hd : decode cc pc = .ok (.getfield 21, 3)) (hn : pc + 3 = n) (k : G n lv (.int (g (gbl b)) :: st) (g, f, w)) : G pc lv (.ref (ad (gbk b)) :: st) (g, f, w) := by
  unfold gbk gbl at *
  split at k <;> rename_i hb
  · rw [if_pos hb]; exact s_get h (C := RX6) (T := TX6) (N := 4) (a := 11) (j := 3) ⟨by decide, rfl, rfl, rfl, by decide⟩ inX6 lfX6_21 rfl hd hn k
  · rw [if_neg hb]; exact s_get h (C := RX6) (T := TX6) (N := 4) (a := 12) (j := 3) ⟨by decide, rfl, rfl, rfl, by decide⟩ inX6 lfX6_21 rfl hd hn k
theorem ptX6_21 (h : gSim l D cs layC ad Z d RX6 cc nL ret G Rt) {b x : Int32} (hd : decode cc pc = .ok (.putfield 21, 3)) (hn : pc + 3 = n) (k : G n lv st (va_up g (gbl b) x, f, w)) : G pc lv (.int x :: .ref (ad (gbk b)) :: st) (g, f, w) := by
  unfold gbk gbl at *
  split at k <;> rename_i hb
  · rw [if_pos hb]; exact s_put h (C := RX6) (T := TX6) (N := 4) (a := 11) (j := 3) (t := 0) (x := x) ⟨by decide, rfl, rfl, rfl, by decide, rfl⟩ (by decide +kernel) inX6 tyX6_ok nmX6 lfX6_21 (by simp only [gfv]; rw [show va_up g 23 x 23 = x from if_pos rfl]) ⟨rfl, rfl⟩ hd hn k
  · rw [if_neg hb]; exact s_put h (C := RX6) (T := TX6) (N := 4) (a := 12) (j := 3) (t := 0) (x := x) ⟨by decide, rfl, rfl, rfl, by decide, rfl⟩ (by decide +kernel) inX6 tyX6_ok nmX6 lfX6_21 (by simp only [gfv]; rw [show va_up g 24 x 24 = x from if_pos rfl]) ⟨rfl, rfl⟩ hd hn k
theorem gtX11_31 (h : gSim l D cs layC ad Z d RX11 cc nL ret G Rt) (hd : decode cc pc = .ok (.getfield 31, 3)) (hn : pc + 3 = n) (k : G n lv (.ref (ad 1) :: st) (g, f, w)) : G pc lv (.ref (ad 0) :: st) (g, f, w) := s_get h (C := RX11) (T := TX11) (N := 14) (a := 0) (j := 0) ⟨by decide, rfl, rfl, rfl, by decide⟩ inX11 lfX11_31 rfl hd hn k
theorem gtX11_35 (h : gSim l D cs layC ad Z d RX11 cc nL ret G Rt) (hd : decode cc pc = .ok (.getfield 35, 3)) (hn : pc + 3 = n) (k : G n lv (.ref (ad 2) :: st) (g, f, w)) : G pc lv (.ref (ad 0) :: st) (g, f, w) := s_get h (C := RX11) (T := TX11) (N := 14) (a := 0) (j := 1) ⟨by decide, rfl, rfl, rfl, by decide⟩ inX11 lfX11_35 rfl hd hn k
theorem gtX11_39 (h : gSim l D cs layC ad Z d RX11 cc nL ret G Rt) (hd : decode cc pc = .ok (.getfield 39, 3)) (hn : pc + 3 = n) (k : G n lv (.ref (ad 3) :: st) (g, f, w)) : G pc lv (.ref (ad 0) :: st) (g, f, w) := s_get h (C := RX11) (T := TX11) (N := 14) (a := 0) (j := 2) ⟨by decide, rfl, rfl, rfl, by decide⟩ inX11 lfX11_39 rfl hd hn k
theorem gtX11_43 (h : gSim l D cs layC ad Z d RX11 cc nL ret G Rt) (hd : decode cc pc = .ok (.getfield 43, 3)) (hn : pc + 3 = n) (k : G n lv (.ref (ad 4) :: st) (g, f, w)) : G pc lv (.ref (ad 0) :: st) (g, f, w) := s_get h (C := RX11) (T := TX11) (N := 14) (a := 0) (j := 3) ⟨by decide, rfl, rfl, rfl, by decide⟩ inX11 lfX11_43 rfl hd hn k
theorem gtX11_50 (h : gSim l D cs layC ad Z d RX11 cc nL ret G Rt) (hd : decode cc pc = .ok (.getfield 50, 3)) (hn : pc + 3 = n) (k : G n lv (.ref (ad 5) :: st) (g, f, w)) : G pc lv (.ref (ad 0) :: st) (g, f, w) := s_get h (C := RX11) (T := TX11) (N := 14) (a := 0) (j := 4) ⟨by decide, rfl, rfl, rfl, by decide⟩ inX11 lfX11_50 rfl hd hn k
theorem gtX11_54 (h : gSim l D cs layC ad Z d RX11 cc nL ret G Rt) (hd : decode cc pc = .ok (.getfield 54, 3)) (hn : pc + 3 = n) (k : G n lv (.ref (ad 6) :: st) (g, f, w)) : G pc lv (.ref (ad 0) :: st) (g, f, w) := s_get h (C := RX11) (T := TX11) (N := 14) (a := 0) (j := 5) ⟨by decide, rfl, rfl, rfl, by decide⟩ inX11 lfX11_54 rfl hd hn k
theorem gtX11_58 (h : gSim l D cs layC ad Z d RX11 cc nL ret G Rt) (hd : decode cc pc = .ok (.getfield 58, 3)) (hn : pc + 3 = n) (k : G n lv (.ref (ad 7) :: st) (g, f, w)) : G pc lv (.ref (ad 0) :: st) (g, f, w) := s_get h (C := RX11) (T := TX11) (N := 14) (a := 0) (j := 6) ⟨by decide, rfl, rfl, rfl, by decide⟩ inX11 lfX11_58 rfl hd hn k
theorem gtX11_67 (h : gSim l D cs layC ad Z d RX11 cc nL ret G Rt) (hd : decode cc pc = .ok (.getfield 67, 3)) (hn : pc + 3 = n) (k : G n lv (.ref (ad 8) :: st) (g, f, w)) : G pc lv (.ref (ad 0) :: st) (g, f, w) := s_get h (C := RX11) (T := TX11) (N := 14) (a := 0) (j := 7) ⟨by decide, rfl, rfl, rfl, by decide⟩ inX11 lfX11_67 rfl hd hn k
theorem gtX11_76 (h : gSim l D cs layC ad Z d RX11 cc nL ret G Rt) (hd : decode cc pc = .ok (.getfield 76, 3)) (hn : pc + 3 = n) (k : G n lv (.ref (ad 9) :: st) (g, f, w)) : G pc lv (.ref (ad 0) :: st) (g, f, w) := s_get h (C := RX11) (T := TX11) (N := 14) (a := 0) (j := 8) ⟨by decide, rfl, rfl, rfl, by decide⟩ inX11 lfX11_76 rfl hd hn k
theorem gtX11_83 (h : gSim l D cs layC ad Z d RX11 cc nL ret G Rt) (hd : decode cc pc = .ok (.getfield 83, 3)) (hn : pc + 3 = n) (k : G n lv (.ref (ad 10) :: st) (g, f, w)) : G pc lv (.ref (ad 0) :: st) (g, f, w) := s_get h (C := RX11) (T := TX11) (N := 14) (a := 0) (j := 9) ⟨by decide, rfl, rfl, rfl, by decide⟩ inX11 lfX11_83 rfl hd hn k
theorem gtX11_90 (h : gSim l D cs layC ad Z d RX11 cc nL ret G Rt) (hd : decode cc pc = .ok (.getfield 90, 3)) (hn : pc + 3 = n) (k : G n lv (.ref (ad (gbk (g 2))) :: st) (g, f, w)) : G pc lv (.ref (ad 0) :: st) (g, f, w) := s_get h (C := RX11) (T := TX11) (N := 14) (a := 0) (j := 10) ⟨by decide, rfl, rfl, rfl, by decide⟩ inX11 lfX11_90 rfl hd hn k
theorem ptX11_90 (h : gSim l D cs layC ad Z d RX11 cc nL ret G Rt) {x : Int32} (hd : decode cc pc = .ok (.putfield 90, 3)) (hn : pc + 3 = n) (k : G n lv st (va_up g 2 x, f, w)) : G pc lv (.ref (ad (gbk x)) :: .ref (ad 0) :: st) (g, f, w) := s_put h (C := RX11) (T := TX11) (N := 14) (a := 0) (j := 10) (t := 2) (x := x) ⟨by decide, rfl, rfl, rfl, by decide, rfl⟩ (by decide +kernel) inX11 tyX11_ok nmX11 lfX11_90 (by simp only [gfv]; rw [show va_up g 2 x 2 = x from if_pos rfl]) ⟨rfl, rfl⟩ hd hn k
theorem gtX11_94 (h : gSim l D cs layC ad Z d RX11 cc nL ret G Rt) (hd : decode cc pc = .ok (.getfield 94, 3)) (hn : pc + 3 = n) (k : G n lv (.ref (ad (gbk (g 3))) :: st) (g, f, w)) : G pc lv (.ref (ad 0) :: st) (g, f, w) := s_get h (C := RX11) (T := TX11) (N := 14) (a := 0) (j := 11) ⟨by decide, rfl, rfl, rfl, by decide⟩ inX11 lfX11_94 rfl hd hn k
theorem ptX11_94 (h : gSim l D cs layC ad Z d RX11 cc nL ret G Rt) {x : Int32} (hd : decode cc pc = .ok (.putfield 94, 3)) (hn : pc + 3 = n) (k : G n lv st (va_up g 3 x, f, w)) : G pc lv (.ref (ad (gbk x)) :: .ref (ad 0) :: st) (g, f, w) := s_put h (C := RX11) (T := TX11) (N := 14) (a := 0) (j := 11) (t := 2) (x := x) ⟨by decide, rfl, rfl, rfl, by decide, rfl⟩ (by decide +kernel) inX11 tyX11_ok nmX11 lfX11_94 (by simp only [gfv]; rw [show va_up g 3 x 3 = x from if_pos rfl]) ⟨rfl, rfl⟩ hd hn k
theorem gtX11_97 (h : gSim l D cs layC ad Z d RX11 cc nL ret G Rt) (hd : decode cc pc = .ok (.getfield 97, 3)) (hn : pc + 3 = n) (k : G n lv (.int (g 0) :: st) (g, f, w)) : G pc lv (.ref (ad 0) :: st) (g, f, w) := s_get h (C := RX11) (T := TX11) (N := 14) (a := 0) (j := 12) ⟨by decide, rfl, rfl, rfl, by decide⟩ inX11 lfX11_97 rfl hd hn k
theorem ptX11_97 (h : gSim l D cs layC ad Z d RX11 cc nL ret G Rt) {x : Int32} (hd : decode cc pc = .ok (.putfield 97, 3)) (hn : pc + 3 = n) (k : G n lv st (va_up g 0 x, f, w)) : G pc lv (.int x :: .ref (ad 0) :: st) (g, f, w) := s_put h (C := RX11) (T := TX11) (N := 14) (a := 0) (j := 12) (t := 0) (x := x) ⟨by decide, rfl, rfl, rfl, by decide, rfl⟩ (by decide +kernel) inX11 tyX11_ok nmX11 lfX11_97 (by simp only [gfv]; rw [show va_up g 0 x 0 = x from if_pos rfl]) ⟨rfl, rfl⟩ hd hn k
theorem gtX11_101 (h : gSim l D cs layC ad Z d RX11 cc nL ret G Rt) (hd : decode cc pc = .ok (.getfield 101, 3)) (hn : pc + 3 = n) (k : G n lv (.int (g 1) :: st) (g, f, w)) : G pc lv (.ref (ad 0) :: st) (g, f, w) := s_get h (C := RX11) (T := TX11) (N := 14) (a := 0) (j := 13) ⟨by decide, rfl, rfl, rfl, by decide⟩ inX11 lfX11_101 rfl hd hn k
theorem ptX11_101 (h : gSim l D cs layC ad Z d RX11 cc nL ret G Rt) {x : Int32} (hd : decode cc pc = .ok (.putfield 101, 3)) (hn : pc + 3 = n) (k : G n lv st (va_up g 1 x, f, w)) : G pc lv (.int x :: .ref (ad 0) :: st) (g, f, w) := s_put h (C := RX11) (T := TX11) (N := 14) (a := 0) (j := 13) (t := 0) (x := x) ⟨by decide, rfl, rfl, rfl, by decide, rfl⟩ (by decide +kernel) inX11 tyX11_ok nmX11 lfX11_101 (by simp only [gfv]; rw [show va_up g 1 x 1 = x from if_pos rfl]) ⟨rfl, rfl⟩ hd hn k
theorem gtX12_96 (h : gSim l D cs layM ad Z d RX12 cc nL ret G Rt) (hd : decode cc pc = .ok (.getfield 96, 3)) (hn : pc + 3 = n) (k : G n lv (.int (g 0) :: st) (g, f, w)) : G pc lv (.ref (ad 0) :: st) (g, f, w) := s_get h (C := RX12) (T := TX12) (N := 44) (a := 0) (j := 0) ⟨by decide, rfl, rfl, rfl, by decide⟩ inX12 lfX12_96 rfl hd hn k
theorem ptX12_96 (h : gSim l D cs layM ad Z d RX12 cc nL ret G Rt) {x : Int32} (hd : decode cc pc = .ok (.putfield 96, 3)) (hn : pc + 3 = n) (k : G n lv st (va_up g 0 x, f, w)) : G pc lv (.int x :: .ref (ad 0) :: st) (g, f, w) := s_put h (C := RX12) (T := TX12) (N := 44) (a := 0) (j := 0) (t := 0) (x := x) ⟨by decide, rfl, rfl, rfl, by decide, rfl⟩ (by decide +kernel) inX12 tyX12_ok nmX12 lfX12_96 (by simp only [gfv]; rw [show va_up g 0 x 0 = x from if_pos rfl]) ⟨rfl, rfl⟩ hd hn k
theorem gtX12_99 (h : gSim l D cs layM ad Z d RX12 cc nL ret G Rt) (hd : decode cc pc = .ok (.getfield 99, 3)) (hn : pc + 3 = n) (k : G n lv (.int (g 1) :: st) (g, f, w)) : G pc lv (.ref (ad 0) :: st) (g, f, w) := s_get h (C := RX12) (T := TX12) (N := 44) (a := 0) (j := 1) ⟨by decide, rfl, rfl, rfl, by decide⟩ inX12 lfX12_99 rfl hd hn k
theorem ptX12_99 (h : gSim l D cs layM ad Z d RX12 cc nL ret G Rt) {x : Int32} (hd : decode cc pc = .ok (.putfield 99, 3)) (hn : pc + 3 = n) (k : G n lv st (va_up g 1 x, f, w)) : G pc lv (.int x :: .ref (ad 0) :: st) (g, f, w) := s_put h (C := RX12) (T := TX12) (N := 44) (a := 0) (j := 1) (t := 0) (x := x) ⟨by decide, rfl, rfl, rfl, by decide, rfl⟩ (by decide +kernel) inX12 tyX12_ok nmX12 lfX12_99 (by simp only [gfv]; rw [show va_up g 1 x 1 = x from if_pos rfl]) ⟨rfl, rfl⟩ hd hn k
theorem gtX12_7 (h : gSim l D cs layM ad Z d RX12 cc nL ret G Rt) (hd : decode cc pc = .ok (.getfield 7, 3)) (hn : pc + 3 = n) (k : G n lv (.int (g 2) :: st) (g, f, w)) : G pc lv (.ref (ad 0) :: st) (g, f, w) := s_get h (C := RX12) (T := TX12) (N := 44) (a := 0) (j := 2) ⟨by decide, rfl, rfl, rfl, by decide⟩ inX12 lfX12_7 rfl hd hn k
theorem ptX12_7 (h : gSim l D cs layM ad Z d RX12 cc nL ret G Rt) {x : Int32} (hd : decode cc pc = .ok (.putfield 7, 3)) (hn : pc + 3 = n) (k : G n lv st (va_up g 2 x, f, w)) : G pc lv (.int x :: .ref (ad 0) :: st) (g, f, w) := s_put h (C := RX12) (T := TX12) (N := 44) (a := 0) (j := 2) (t := 0) (x := x) ⟨by decide, rfl, rfl, rfl, by decide, rfl⟩ (by decide +kernel) inX12 tyX12_ok nmX12 lfX12_7 (by simp only [gfv]; rw [show va_up g 2 x 2 = x from if_pos rfl]) ⟨rfl, rfl⟩ hd hn k
theorem gtX12_13 (h : gSim l D cs layM ad Z d RX12 cc nL ret G Rt) (hd : decode cc pc = .ok (.getfield 13, 3)) (hn : pc + 3 = n) (k : G n lv (.int (g 3) :: st) (g, f, w)) : G pc lv (.ref (ad 0) :: st) (g, f, w) := s_get h (C := RX12) (T := TX12) (N := 44) (a := 0) (j := 3) ⟨by decide, rfl, rfl, rfl, by decide⟩ inX12 lfX12_13 rfl hd hn k
theorem ptX12_13 (h : gSim l D cs layM ad Z d RX12 cc nL ret G Rt) {x : Int32} (hd : decode cc pc = .ok (.putfield 13, 3)) (hn : pc + 3 = n) (k : G n lv st (va_up g 3 x, f, w)) : G pc lv (.int x :: .ref (ad 0) :: st) (g, f, w) := s_put h (C := RX12) (T := TX12) (N := 44) (a := 0) (j := 3) (t := 0) (x := x) ⟨by decide, rfl, rfl, rfl, by decide, rfl⟩ (by decide +kernel) inX12 tyX12_ok nmX12 lfX12_13 (by simp only [gfv]; rw [show va_up g 3 x 3 = x from if_pos rfl]) ⟨rfl, rfl⟩ hd hn k
theorem gtX12_16 (h : gSim l D cs layM ad Z d RX12 cc nL ret G Rt) (hd : decode cc pc = .ok (.getfield 16, 3)) (hn : pc + 3 = n) (k : G n lv (.ref (ad 1) :: st) (g, f, w)) : G pc lv (.ref (ad 0) :: st) (g, f, w) := s_get h (C := RX12) (T := TX12) (N := 44) (a := 0) (j := 4) ⟨by decide, rfl, rfl, rfl, by decide⟩ inX12 lfX12_16 rfl hd hn k
theorem gtX12_20 (h : gSim l D cs layM ad Z d RX12 cc nL ret G Rt) (hd : decode cc pc = .ok (.getfield 20, 3)) (hn : pc + 3 = n) (k : G n lv (.ref (ad 2) :: st) (g, f, w)) : G pc lv (.ref (ad 0) :: st) (g, f, w) := s_get h (C := RX12) (T := TX12) (N := 44) (a := 0) (j := 5) ⟨by decide, rfl, rfl, rfl, by decide⟩ inX12 lfX12_20 rfl hd hn k
theorem gtX12_106 (h : gSim l D cs layM ad Z d RX12 cc nL ret G Rt) (hd : decode cc pc = .ok (.getfield 106, 3)) (hn : pc + 3 = n) (k : G n lv (.int (g 6) :: st) (g, f, w)) : G pc lv (.ref (ad 0) :: st) (g, f, w) := s_get h (C := RX12) (T := TX12) (N := 44) (a := 0) (j := 6) ⟨by decide, rfl, rfl, rfl, by decide⟩ inX12 lfX12_106 rfl hd hn k
theorem ptX12_106 (h : gSim l D cs layM ad Z d RX12 cc nL ret G Rt) {x : Int32} (hd : decode cc pc = .ok (.putfield 106, 3)) (hn : pc + 3 = n) (k : G n lv st (va_up g 6 x, f, w)) : G pc lv (.int x :: .ref (ad 0) :: st) (g, f, w) := s_put h (C := RX12) (T := TX12) (N := 44) (a := 0) (j := 6) (t := 0) (x := x) ⟨by decide, rfl, rfl, rfl, by decide, rfl⟩ (by decide +kernel) inX12 tyX12_ok nmX12 lfX12_106 (by simp only [gfv]; rw [show va_up g 6 x 6 = x from if_pos rfl]) ⟨rfl, rfl⟩ hd hn k
theorem gtX12_24 (h : gSim l D cs layM ad Z d RX12 cc nL ret G Rt) (hd : decode cc pc = .ok (.getfield 24, 3)) (hn : pc + 3 = n) (k : G n lv (.ref (ad 3) :: st) (g, f, w)) : G pc lv (.ref (ad 0) :: st) (g, f, w) := s_get h (C := RX12) (T := TX12) (N := 44) (a := 0) (j := 7) ⟨by decide, rfl, rfl, rfl, by decide⟩ inX12 lfX12_24 rfl hd hn k
theorem gtX12_27 (h : gSim l D cs layM ad Z d RX12 cc nL ret G Rt) (hd : decode cc pc = .ok (.getfield 27, 3)) (hn : pc + 3 = n) (k : G n lv (.ref (ad 4) :: st) (g, f, w)) : G pc lv (.ref (ad 0) :: st) (g, f, w) := s_get h (C := RX12) (T := TX12) (N := 44) (a := 0) (j := 8) ⟨by decide, rfl, rfl, rfl, by decide⟩ inX12 lfX12_27 rfl hd hn k
theorem gtX12_30 (h : gSim l D cs layM ad Z d RX12 cc nL ret G Rt) (hd : decode cc pc = .ok (.getfield 30, 3)) (hn : pc + 3 = n) (k : G n lv (.ref (ad 5) :: st) (g, f, w)) : G pc lv (.ref (ad 0) :: st) (g, f, w) := s_get h (C := RX12) (T := TX12) (N := 44) (a := 0) (j := 9) ⟨by decide, rfl, rfl, rfl, by decide⟩ inX12 lfX12_30 rfl hd hn k
theorem gtX12_33 (h : gSim l D cs layM ad Z d RX12 cc nL ret G Rt) (hd : decode cc pc = .ok (.getfield 33, 3)) (hn : pc + 3 = n) (k : G n lv (.ref (ad 6) :: st) (g, f, w)) : G pc lv (.ref (ad 0) :: st) (g, f, w) := s_get h (C := RX12) (T := TX12) (N := 44) (a := 0) (j := 10) ⟨by decide, rfl, rfl, rfl, by decide⟩ inX12 lfX12_33 rfl hd hn k
theorem gtX12_36 (h : gSim l D cs layM ad Z d RX12 cc nL ret G Rt) (hd : decode cc pc = .ok (.getfield 36, 3)) (hn : pc + 3 = n) (k : G n lv (.ref (ad 7) :: st) (g, f, w)) : G pc lv (.ref (ad 0) :: st) (g, f, w) := s_get h (C := RX12) (T := TX12) (N := 44) (a := 0) (j := 11) ⟨by decide, rfl, rfl, rfl, by decide⟩ inX12 lfX12_36 rfl hd hn k
theorem gtX12_39 (h : gSim l D cs layM ad Z d RX12 cc nL ret G Rt) (hd : decode cc pc = .ok (.getfield 39, 3)) (hn : pc + 3 = n) (k : G n lv (.ref (ad 8) :: st) (g, f, w)) : G pc lv (.ref (ad 0) :: st) (g, f, w) := s_get h (C := RX12) (T := TX12) (N := 44) (a := 0) (j := 12) ⟨by decide, rfl, rfl, rfl, by decide⟩ inX12 lfX12_39 rfl hd hn k
theorem gtX12_167 (h : gSim l D cs layM ad Z d RX12 cc nL ret G Rt) (hd : decode cc pc = .ok (.getfield 167, 3)) (hn : pc + 3 = n) (k : G n lv (.int (g 13) :: st) (g, f, w)) : G pc lv (.ref (ad 0) :: st) (g, f, w) := s_get h (C := RX12) (T := TX12) (N := 44) (a := 0) (j := 13) ⟨by decide, rfl, rfl, rfl, by decide⟩ inX12 lfX12_167 rfl hd hn k
theorem ptX12_167 (h : gSim l D cs layM ad Z d RX12 cc nL ret G Rt) {x : Int32} (hd : decode cc pc = .ok (.putfield 167, 3)) (hn : pc + 3 = n) (k : G n lv st (va_up g 13 x, f, w)) : G pc lv (.int x :: .ref (ad 0) :: st) (g, f, w) := s_put h (C := RX12) (T := TX12) (N := 44) (a := 0) (j := 13) (t := 0) (x := x) ⟨by decide, rfl, rfl, rfl, by decide, rfl⟩ (by decide +kernel) inX12 tyX12_ok nmX12 lfX12_167 (by simp only [gfv]; rw [show va_up g 13 x 13 = x from if_pos rfl]) ⟨rfl, rfl⟩ hd hn k
theorem gtX12_164 (h : gSim l D cs layM ad Z d RX12 cc nL ret G Rt) (hd : decode cc pc = .ok (.getfield 164, 3)) (hn : pc + 3 = n) (k : G n lv (.int (g 14) :: st) (g, f, w)) : G pc lv (.ref (ad 0) :: st) (g, f, w) := s_get h (C := RX12) (T := TX12) (N := 44) (a := 0) (j := 14) ⟨by decide, rfl, rfl, rfl, by decide⟩ inX12 lfX12_164 rfl hd hn k
theorem ptX12_164 (h : gSim l D cs layM ad Z d RX12 cc nL ret G Rt) {x : Int32} (hd : decode cc pc = .ok (.putfield 164, 3)) (hn : pc + 3 = n) (k : G n lv st (va_up g 14 x, f, w)) : G pc lv (.int x :: .ref (ad 0) :: st) (g, f, w) := s_put h (C := RX12) (T := TX12) (N := 44) (a := 0) (j := 14) (t := 0) (x := x) ⟨by decide, rfl, rfl, rfl, by decide, rfl⟩ (by decide +kernel) inX12 tyX12_ok nmX12 lfX12_164 (by simp only [gfv]; rw [show va_up g 14 x 14 = x from if_pos rfl]) ⟨rfl, rfl⟩ hd hn k
theorem gtX12_180 (h : gSim l D cs layM ad Z d RX12 cc nL ret G Rt) (hd : decode cc pc = .ok (.getfield 180, 3)) (hn : pc + 3 = n) (k : G n lv (.int (g 15) :: st) (g, f, w)) : G pc lv (.ref (ad 0) :: st) (g, f, w) := s_get h (C := RX12) (T := TX12) (N := 44) (a := 0) (j := 15) ⟨by decide, rfl, rfl, rfl, by decide⟩ inX12 lfX12_180 rfl hd hn k
theorem ptX12_180 (h : gSim l D cs layM ad Z d RX12 cc nL ret G Rt) {x : Int32} (hd : decode cc pc = .ok (.putfield 180, 3)) (hn : pc + 3 = n) (k : G n lv st (va_up g 15 x, f, w)) : G pc lv (.int x :: .ref (ad 0) :: st) (g, f, w) := s_put h (C := RX12) (T := TX12) (N := 44) (a := 0) (j := 15) (t := 0) (x := x) ⟨by decide, rfl, rfl, rfl, by decide, rfl⟩ (by decide +kernel) inX12 tyX12_ok nmX12 lfX12_180 (by simp only [gfv]; rw [show va_up g 15 x 15 = x from if_pos rfl]) ⟨rfl, rfl⟩ hd hn k
theorem gtX12_42 (h : gSim l D cs layM ad Z d RX12 cc nL ret G Rt) (hd : decode cc pc = .ok (.getfield 42, 3)) (hn : pc + 3 = n) (k : G n lv (.ref (ad 9) :: st) (g, f, w)) : G pc lv (.ref (ad 0) :: st) (g, f, w) := s_get h (C := RX12) (T := TX12) (N := 44) (a := 0) (j := 16) ⟨by decide, rfl, rfl, rfl, by decide⟩ inX12 lfX12_42 rfl hd hn k
theorem gtX12_45 (h : gSim l D cs layM ad Z d RX12 cc nL ret G Rt) (hd : decode cc pc = .ok (.getfield 45, 3)) (hn : pc + 3 = n) (k : G n lv (.ref (ad 10) :: st) (g, f, w)) : G pc lv (.ref (ad 0) :: st) (g, f, w) := s_get h (C := RX12) (T := TX12) (N := 44) (a := 0) (j := 17) ⟨by decide, rfl, rfl, rfl, by decide⟩ inX12 lfX12_45 rfl hd hn k
theorem gtX12_48 (h : gSim l D cs layM ad Z d RX12 cc nL ret G Rt) (hd : decode cc pc = .ok (.getfield 48, 3)) (hn : pc + 3 = n) (k : G n lv (.ref (ad 11) :: st) (g, f, w)) : G pc lv (.ref (ad 0) :: st) (g, f, w) := s_get h (C := RX12) (T := TX12) (N := 44) (a := 0) (j := 18) ⟨by decide, rfl, rfl, rfl, by decide⟩ inX12 lfX12_48 rfl hd hn k
theorem gtX12_51 (h : gSim l D cs layM ad Z d RX12 cc nL ret G Rt) (hd : decode cc pc = .ok (.getfield 51, 3)) (hn : pc + 3 = n) (k : G n lv (.ref (ad 12) :: st) (g, f, w)) : G pc lv (.ref (ad 0) :: st) (g, f, w) := s_get h (C := RX12) (T := TX12) (N := 44) (a := 0) (j := 19) ⟨by decide, rfl, rfl, rfl, by decide⟩ inX12 lfX12_51 rfl hd hn k
theorem gtX12_54 (h : gSim l D cs layM ad Z d RX12 cc nL ret G Rt) (hd : decode cc pc = .ok (.getfield 54, 3)) (hn : pc + 3 = n) (k : G n lv (.ref (ad 13) :: st) (g, f, w)) : G pc lv (.ref (ad 0) :: st) (g, f, w) := s_get h (C := RX12) (T := TX12) (N := 44) (a := 0) (j := 20) ⟨by decide, rfl, rfl, rfl, by decide⟩ inX12 lfX12_54 rfl hd hn k
theorem gtX12_57 (h : gSim l D cs layM ad Z d RX12 cc nL ret G Rt) (hd : decode cc pc = .ok (.getfield 57, 3)) (hn : pc + 3 = n) (k : G n lv (.int (g 21) :: st) (g, f, w)) : G pc lv (.ref (ad 0) :: st) (g, f, w) := s_get h (C := RX12) (T := TX12) (N := 44) (a := 0) (j := 21) ⟨by decide, rfl, rfl, rfl, by decide⟩ inX12 lfX12_57 rfl hd hn k
theorem ptX12_57 (h : gSim l D cs layM ad Z d RX12 cc nL ret G Rt) {x : Int32} (hd : decode cc pc = .ok (.putfield 57, 3)) (hn : pc + 3 = n) (k : G n lv st (va_up g 21 x, f, w)) : G pc lv (.int x :: .ref (ad 0) :: st) (g, f, w) := s_put h (C := RX12) (T := TX12) (N := 44) (a := 0) (j := 21) (t := 0) (x := x) ⟨by decide, rfl, rfl, rfl, by decide, rfl⟩ (by decide +kernel) inX12 tyX12_ok nmX12 lfX12_57 (by simp only [gfv]; rw [show va_up g 21 x 21 = x from if_pos rfl]) ⟨rfl, rfl⟩ hd hn k
theorem gtX12_60 (h : gSim l D cs layM ad Z d RX12 cc nL ret G Rt) (hd : decode cc pc = .ok (.getfield 60, 3)) (hn : pc + 3 = n) (k : G n lv (.ref (ad 14) :: st) (g, f, w)) : G pc lv (.ref (ad 0) :: st) (g, f, w) := s_get h (C := RX12) (T := TX12) (N := 44) (a := 0) (j := 22) ⟨by decide, rfl, rfl, rfl, by decide⟩ inX12 lfX12_60 rfl hd hn k
theorem gtX12_63 (h : gSim l D cs layM ad Z d RX12 cc nL ret G Rt) (hd : decode cc pc = .ok (.getfield 63, 3)) (hn : pc + 3 = n) (k : G n lv (.ref (ad 15) :: st) (g, f, w)) : G pc lv (.ref (ad 0) :: st) (g, f, w) := s_get h (C := RX12) (T := TX12) (N := 44) (a := 0) (j := 23) ⟨by decide, rfl, rfl, rfl, by decide⟩ inX12 lfX12_63 rfl hd hn k
theorem gtX12_250 (h : gSim l D cs layM ad Z d RX12 cc nL ret G Rt) (hd : decode cc pc = .ok (.getfield 250, 3)) (hn : pc + 3 = n) (k : G n lv (.int (g 24) :: st) (g, f, w)) : G pc lv (.ref (ad 0) :: st) (g, f, w) := s_get h (C := RX12) (T := TX12) (N := 44) (a := 0) (j := 24) ⟨by decide, rfl, rfl, rfl, by decide⟩ inX12 lfX12_250 rfl hd hn k
theorem ptX12_250 (h : gSim l D cs layM ad Z d RX12 cc nL ret G Rt) {x : Int32} (hd : decode cc pc = .ok (.putfield 250, 3)) (hn : pc + 3 = n) (k : G n lv st (va_up g 24 x, f, w)) : G pc lv (.int x :: .ref (ad 0) :: st) (g, f, w) := s_put h (C := RX12) (T := TX12) (N := 44) (a := 0) (j := 24) (t := 0) (x := x) ⟨by decide, rfl, rfl, rfl, by decide, rfl⟩ (by decide +kernel) inX12 tyX12_ok nmX12 lfX12_250 (by simp only [gfv]; rw [show va_up g 24 x 24 = x from if_pos rfl]) ⟨rfl, rfl⟩ hd hn k
theorem gtX12_66 (h : gSim l D cs layM ad Z d RX12 cc nL ret G Rt) (hd : decode cc pc = .ok (.getfield 66, 3)) (hn : pc + 3 = n) (k : G n lv (.ref (ad 16) :: st) (g, f, w)) : G pc lv (.ref (ad 0) :: st) (g, f, w) := s_get h (C := RX12) (T := TX12) (N := 44) (a := 0) (j := 25) ⟨by decide, rfl, rfl, rfl, by decide⟩ inX12 lfX12_66 rfl hd hn k
theorem gtX12_69 (h : gSim l D cs layM ad Z d RX12 cc nL ret G Rt) (hd : decode cc pc = .ok (.getfield 69, 3)) (hn : pc + 3 = n) (k : G n lv (.ref (ad 17) :: st) (g, f, w)) : G pc lv (.ref (ad 0) :: st) (g, f, w) := s_get h (C := RX12) (T := TX12) (N := 44) (a := 0) (j := 26) ⟨by decide, rfl, rfl, rfl, by decide⟩ inX12 lfX12_69 rfl hd hn k
theorem gtX12_72 (h : gSim l D cs layM ad Z d RX12 cc nL ret G Rt) (hd : decode cc pc = .ok (.getfield 72, 3)) (hn : pc + 3 = n) (k : G n lv (.ref (ad 18) :: st) (g, f, w)) : G pc lv (.ref (ad 0) :: st) (g, f, w) := s_get h (C := RX12) (T := TX12) (N := 44) (a := 0) (j := 27) ⟨by decide, rfl, rfl, rfl, by decide⟩ inX12 lfX12_72 rfl hd hn k
theorem gtX12_75 (h : gSim l D cs layM ad Z d RX12 cc nL ret G Rt) (hd : decode cc pc = .ok (.getfield 75, 3)) (hn : pc + 3 = n) (k : G n lv (.ref (ad 19) :: st) (g, f, w)) : G pc lv (.ref (ad 0) :: st) (g, f, w) := s_get h (C := RX12) (T := TX12) (N := 44) (a := 0) (j := 28) ⟨by decide, rfl, rfl, rfl, by decide⟩ inX12 lfX12_75 rfl hd hn k
theorem gtX12_238 (h : gSim l D cs layM ad Z d RX12 cc nL ret G Rt) (hd : decode cc pc = .ok (.getfield 238, 3)) (hn : pc + 3 = n) (k : G n lv (.int (g 29) :: st) (g, f, w)) : G pc lv (.ref (ad 0) :: st) (g, f, w) := s_get h (C := RX12) (T := TX12) (N := 44) (a := 0) (j := 29) ⟨by decide, rfl, rfl, rfl, by decide⟩ inX12 lfX12_238 rfl hd hn k
theorem ptX12_238 (h : gSim l D cs layM ad Z d RX12 cc nL ret G Rt) {x : Int32} (hd : decode cc pc = .ok (.putfield 238, 3)) (hn : pc + 3 = n) (k : G n lv st (va_up g 29 x, f, w)) : G pc lv (.int x :: .ref (ad 0) :: st) (g, f, w) := s_put h (C := RX12) (T := TX12) (N := 44) (a := 0) (j := 29) (t := 0) (x := x) ⟨by decide, rfl, rfl, rfl, by decide, rfl⟩ (by decide +kernel) inX12 tyX12_ok nmX12 lfX12_238 (by simp only [gfv]; rw [show va_up g 29 x 29 = x from if_pos rfl]) ⟨rfl, rfl⟩ hd hn k
theorem gtX12_78 (h : gSim l D cs layM ad Z d RX12 cc nL ret G Rt) (hd : decode cc pc = .ok (.getfield 78, 3)) (hn : pc + 3 = n) (k : G n lv (.ref (ad 20) :: st) (g, f, w)) : G pc lv (.ref (ad 0) :: st) (g, f, w) := s_get h (C := RX12) (T := TX12) (N := 44) (a := 0) (j := 30) ⟨by decide, rfl, rfl, rfl, by decide⟩ inX12 lfX12_78 rfl hd hn k
theorem gtX12_187 (h : gSim l D cs layM ad Z d RX12 cc nL ret G Rt) (hd : decode cc pc = .ok (.getfield 187, 3)) (hn : pc + 3 = n) (k : G n lv (.int (g 31) :: st) (g, f, w)) : G pc lv (.ref (ad 0) :: st) (g, f, w) := s_get h (C := RX12) (T := TX12) (N := 44) (a := 0) (j := 31) ⟨by decide, rfl, rfl, rfl, by decide⟩ inX12 lfX12_187 rfl hd hn k
theorem ptX12_187 (h : gSim l D cs layM ad Z d RX12 cc nL ret G Rt) {x : Int32} (hd : decode cc pc = .ok (.putfield 187, 3)) (hn : pc + 3 = n) (k : G n lv st (va_up g 31 x, f, w)) : G pc lv (.int x :: .ref (ad 0) :: st) (g, f, w) := s_put h (C := RX12) (T := TX12) (N := 44) (a := 0) (j := 31) (t := 0) (x := x) ⟨by decide, rfl, rfl, rfl, by decide, rfl⟩ (by decide +kernel) inX12 tyX12_ok nmX12 lfX12_187 (by simp only [gfv]; rw [show va_up g 31 x 31 = x from if_pos rfl]) ⟨rfl, rfl⟩ hd hn k
theorem gtX12_196 (h : gSim l D cs layM ad Z d RX12 cc nL ret G Rt) (hd : decode cc pc = .ok (.getfield 196, 3)) (hn : pc + 3 = n) (k : G n lv (.int (g 32) :: st) (g, f, w)) : G pc lv (.ref (ad 0) :: st) (g, f, w) := s_get h (C := RX12) (T := TX12) (N := 44) (a := 0) (j := 32) ⟨by decide, rfl, rfl, rfl, by decide⟩ inX12 lfX12_196 rfl hd hn k
theorem ptX12_196 (h : gSim l D cs layM ad Z d RX12 cc nL ret G Rt) {x : Int32} (hd : decode cc pc = .ok (.putfield 196, 3)) (hn : pc + 3 = n) (k : G n lv st (va_up g 32 x, f, w)) : G pc lv (.int x :: .ref (ad 0) :: st) (g, f, w) := s_put h (C := RX12) (T := TX12) (N := 44) (a := 0) (j := 32) (t := 0) (x := x) ⟨by decide, rfl, rfl, rfl, by decide, rfl⟩ (by decide +kernel) inX12 tyX12_ok nmX12 lfX12_196 (by simp only [gfv]; rw [show va_up g 32 x 32 = x from if_pos rfl]) ⟨rfl, rfl⟩ hd hn k
theorem gtX12_193 (h : gSim l D cs layM ad Z d RX12 cc nL ret G Rt) (hd : decode cc pc = .ok (.getfield 193, 3)) (hn : pc + 3 = n) (k : G n lv (.int (g 33) :: st) (g, f, w)) : G pc lv (.ref (ad 0) :: st) (g, f, w) := s_get h (C := RX12) (T := TX12) (N := 44) (a := 0) (j := 33) ⟨by decide, rfl, rfl, rfl, by decide⟩ inX12 lfX12_193 rfl hd hn k
theorem ptX12_193 (h : gSim l D cs layM ad Z d RX12 cc nL ret G Rt) {x : Int32} (hd : decode cc pc = .ok (.putfield 193, 3)) (hn : pc + 3 = n) (k : G n lv st (va_up g 33 x, f, w)) : G pc lv (.int x :: .ref (ad 0) :: st) (g, f, w) := s_put h (C := RX12) (T := TX12) (N := 44) (a := 0) (j := 33) (t := 0) (x := x) ⟨by decide, rfl, rfl, rfl, by decide, rfl⟩ (by decide +kernel) inX12 tyX12_ok nmX12 lfX12_193 (by simp only [gfv]; rw [show va_up g 33 x 33 = x from if_pos rfl]) ⟨rfl, rfl⟩ hd hn k
theorem gtX12_209 (h : gSim l D cs layM ad Z d RX12 cc nL ret G Rt) (hd : decode cc pc = .ok (.getfield 209, 3)) (hn : pc + 3 = n) (k : G n lv (.int (g 34) :: st) (g, f, w)) : G pc lv (.ref (ad 0) :: st) (g, f, w) := s_get h (C := RX12) (T := TX12) (N := 44) (a := 0) (j := 34) ⟨by decide, rfl, rfl, rfl, by decide⟩ inX12 lfX12_209 rfl hd hn k
theorem ptX12_209 (h : gSim l D cs layM ad Z d RX12 cc nL ret G Rt) {x : Int32} (hd : decode cc pc = .ok (.putfield 209, 3)) (hn : pc + 3 = n) (k : G n lv st (va_up g 34 x, f, w)) : G pc lv (.int x :: .ref (ad 0) :: st) (g, f, w) := s_put h (C := RX12) (T := TX12) (N := 44) (a := 0) (j := 34) (t := 0) (x := x) ⟨by decide, rfl, rfl, rfl, by decide, rfl⟩ (by decide +kernel) inX12 tyX12_ok nmX12 lfX12_209 (by simp only [gfv]; rw [show va_up g 34 x 34 = x from if_pos rfl]) ⟨rfl, rfl⟩ hd hn k
theorem gtX12_199 (h : gSim l D cs layM ad Z d RX12 cc nL ret G Rt) (hd : decode cc pc = .ok (.getfield 199, 3)) (hn : pc + 3 = n) (k : G n lv (.long w :: st) (g, f, w)) : G pc lv (.ref (ad 0) :: st) (g, f, w) := s_get h (C := RX12) (T := TX12) (N := 44) (a := 0) (j := 35) ⟨by decide, rfl, rfl, rfl, by decide⟩ inX12 lfX12_199 rfl hd hn k
theorem ptX12_199 (h : gSim l D cs layM ad Z d RX12 cc nL ret G Rt) {x : Int64} (hd : decode cc pc = .ok (.putfield 199, 3)) (hn : pc + 3 = n) (k : G n lv st (g, f, x)) : G pc lv (.long x :: .ref (ad 0) :: st) (g, f, w) := s_putl h (C := RX12) (T := TX12) (N := 44) (a := 0) (j := 35) ⟨by decide, rfl, rfl, rfl, by decide, rfl⟩ (by decide +kernel) inX12 tyX12_ok nmX12 lfX12_199 rfl hd hn k
theorem gtX12_81 (h : gSim l D cs layM ad Z d RX12 cc nL ret G Rt) (hd : decode cc pc = .ok (.getfield 81, 3)) (hn : pc + 3 = n) (k : G n lv (.int (g 36) :: st) (g, f, w)) : G pc lv (.ref (ad 0) :: st) (g, f, w) := s_get h (C := RX12) (T := TX12) (N := 44) (a := 0) (j := 36) ⟨by decide, rfl, rfl, rfl, by decide⟩ inX12 lfX12_81 rfl hd hn k
theorem ptX12_81 (h : gSim l D cs layM ad Z d RX12 cc nL ret G Rt) {x : Int32} (hd : decode cc pc = .ok (.putfield 81, 3)) (hn : pc + 3 = n) (k : G n lv st (va_up g 36 x, f, w)) : G pc lv (.int x :: .ref (ad 0) :: st) (g, f, w) := s_put h (C := RX12) (T := TX12) (N := 44) (a := 0) (j := 36) (t := 0) (x := x) ⟨by decide, rfl, rfl, rfl, by decide, rfl⟩ (by decide +kernel) inX12 tyX12_ok nmX12 lfX12_81 (by simp only [gfv]; rw [show va_up g 36 x 36 = x from if_pos rfl]) ⟨rfl, rfl⟩ hd hn k
theorem gtX12_220 (h : gSim l D cs layM ad Z d RX12 cc nL ret G Rt) (hd : decode cc pc = .ok (.getfield 220, 3)) (hn : pc + 3 = n) (k : G n lv (.int (g 37) :: st) (g, f, w)) : G pc lv (.ref (ad 0) :: st) (g, f, w) := s_get h (C := RX12) (T := TX12) (N := 44) (a := 0) (j := 37) ⟨by decide, rfl, rfl, rfl, by decide⟩ inX12 lfX12_220 rfl hd hn k
theorem ptX12_220 (h : gSim l D cs layM ad Z d RX12 cc nL ret G Rt) {x : Int32} (hz : gz x) (hd : decode cc pc = .ok (.putfield 220, 3)) (hn : pc + 3 = n) (k : G n lv st (va_up g 37 x, f, w)) : G pc lv (.int x :: .ref (ad 0) :: st) (g, f, w) := s_put h (C := RX12) (T := TX12) (N := 44) (a := 0) (j := 37) (t := 0) (x := x) ⟨by decide, rfl, rfl, rfl, by decide, rfl⟩ (by decide +kernel) inX12 tyX12_ok nmX12 lfX12_220 (by simp only [gfv]; rw [show va_up g 37 x 37 = x from if_pos rfl]) ⟨gz_n hz, by rcases hz with rfl | rfl <;> decide⟩ hd hn k
theorem gtX12_256 (h : gSim l D cs layM ad Z d RX12 cc nL ret G Rt) (hd : decode cc pc = .ok (.getfield 256, 3)) (hn : pc + 3 = n) (k : G n lv (.int (g 38) :: st) (g, f, w)) : G pc lv (.ref (ad 0) :: st) (g, f, w) := s_get h (C := RX12) (T := TX12) (N := 44) (a := 0) (j := 38) ⟨by decide, rfl, rfl, rfl, by decide⟩ inX12 lfX12_256 rfl hd hn k
theorem ptX12_256 (h : gSim l D cs layM ad Z d RX12 cc nL ret G Rt) {x : Int32} (hd : decode cc pc = .ok (.putfield 256, 3)) (hn : pc + 3 = n) (k : G n lv st (va_up g 38 x, f, w)) : G pc lv (.int x :: .ref (ad 0) :: st) (g, f, w) := s_put h (C := RX12) (T := TX12) (N := 44) (a := 0) (j := 38) (t := 0) (x := x) ⟨by decide, rfl, rfl, rfl, by decide, rfl⟩ (by decide +kernel) inX12 tyX12_ok nmX12 lfX12_256 (by simp only [gfv]; rw [show va_up g 38 x 38 = x from if_pos rfl]) ⟨rfl, rfl⟩ hd hn k
theorem gtX12_84 (h : gSim l D cs layM ad Z d RX12 cc nL ret G Rt) (hd : decode cc pc = .ok (.getfield 84, 3)) (hn : pc + 3 = n) (k : G n lv (.ref (ad 21) :: st) (g, f, w)) : G pc lv (.ref (ad 0) :: st) (g, f, w) := s_get h (C := RX12) (T := TX12) (N := 44) (a := 0) (j := 39) ⟨by decide, rfl, rfl, rfl, by decide⟩ inX12 lfX12_84 rfl hd hn k
theorem gtX12_271 (h : gSim l D cs layM ad Z d RX12 cc nL ret G Rt) (hd : decode cc pc = .ok (.getfield 271, 3)) (hn : pc + 3 = n) (k : G n lv (.int (g 40) :: st) (g, f, w)) : G pc lv (.ref (ad 0) :: st) (g, f, w) := s_get h (C := RX12) (T := TX12) (N := 44) (a := 0) (j := 40) ⟨by decide, rfl, rfl, rfl, by decide⟩ inX12 lfX12_271 rfl hd hn k
theorem ptX12_271 (h : gSim l D cs layM ad Z d RX12 cc nL ret G Rt) {x : Int32} (hd : decode cc pc = .ok (.putfield 271, 3)) (hn : pc + 3 = n) (k : G n lv st (va_up g 40 x, f, w)) : G pc lv (.int x :: .ref (ad 0) :: st) (g, f, w) := s_put h (C := RX12) (T := TX12) (N := 44) (a := 0) (j := 40) (t := 0) (x := x) ⟨by decide, rfl, rfl, rfl, by decide, rfl⟩ (by decide +kernel) inX12 tyX12_ok nmX12 lfX12_271 (by simp only [gfv]; rw [show va_up g 40 x 40 = x from if_pos rfl]) ⟨rfl, rfl⟩ hd hn k
theorem gtX12_87 (h : gSim l D cs layM ad Z d RX12 cc nL ret G Rt) (hd : decode cc pc = .ok (.getfield 87, 3)) (hn : pc + 3 = n) (k : G n lv (.ref (ad 22) :: st) (g, f, w)) : G pc lv (.ref (ad 0) :: st) (g, f, w) := s_get h (C := RX12) (T := TX12) (N := 44) (a := 0) (j := 41) ⟨by decide, rfl, rfl, rfl, by decide⟩ inX12 lfX12_87 rfl hd hn k
theorem gtX12_90 (h : gSim l D cs layM ad Z d RX12 cc nL ret G Rt) (hd : decode cc pc = .ok (.getfield 90, 3)) (hn : pc + 3 = n) (k : G n lv (.ref (ad 23) :: st) (g, f, w)) : G pc lv (.ref (ad 0) :: st) (g, f, w) := s_get h (C := RX12) (T := TX12) (N := 44) (a := 0) (j := 42) ⟨by decide, rfl, rfl, rfl, by decide⟩ inX12 lfX12_90 rfl hd hn k
theorem gtX12_93 (h : gSim l D cs layM ad Z d RX12 cc nL ret G Rt) (hd : decode cc pc = .ok (.getfield 93, 3)) (hn : pc + 3 = n) (k : G n lv (.ref (ad 24) :: st) (g, f, w)) : G pc lv (.ref (ad 0) :: st) (g, f, w) := s_get h (C := RX12) (T := TX12) (N := 44) (a := 0) (j := 43) ⟨by decide, rfl, rfl, rfl, by decide⟩ inX12 lfX12_93 rfl hd hn k
end GFIELDS
theorem kb_m6 : (Int8.ofInt (-6)).toInt32 = ((-6) : Int32) := by decide
theorem kb_m5 : (Int8.ofInt (-5)).toInt32 = ((-5) : Int32) := by decide
theorem kb_m3 : (Int8.ofInt (-3)).toInt32 = ((-3) : Int32) := by decide
theorem kb_m2 : (Int8.ofInt (-2)).toInt32 = ((-2) : Int32) := by decide
theorem kb_6 : (Int8.ofInt 6).toInt32 = (6 : Int32) := by decide
theorem kb_7 : (Int8.ofInt 7).toInt32 = (7 : Int32) := by decide
theorem kb_8 : (Int8.ofInt 8).toInt32 = (8 : Int32) := by decide
theorem kb_9 : (Int8.ofInt 9).toInt32 = (9 : Int32) := by decide
theorem kb_10 : (Int8.ofInt 10).toInt32 = (10 : Int32) := by decide
theorem kb_12 : (Int8.ofInt 12).toInt32 = (12 : Int32) := by decide
theorem kb_16 : (Int8.ofInt 16).toInt32 = (16 : Int32) := by decide
theorem kb_17 : (Int8.ofInt 17).toInt32 = (17 : Int32) := by decide
theorem kb_18 : (Int8.ofInt 18).toInt32 = (18 : Int32) := by decide
theorem kb_20 : (Int8.ofInt 20).toInt32 = (20 : Int32) := by decide
theorem kb_24 : (Int8.ofInt 24).toInt32 = (24 : Int32) := by decide
theorem kb_31 : (Int8.ofInt 31).toInt32 = (31 : Int32) := by decide
theorem kb_32 : (Int8.ofInt 32).toInt32 = (32 : Int32) := by decide
theorem kb_40 : (Int8.ofInt 40).toInt32 = (40 : Int32) := by decide
theorem kb_41 : (Int8.ofInt 41).toInt32 = (41 : Int32) := by decide
theorem kb_48 : (Int8.ofInt 48).toInt32 = (48 : Int32) := by decide
theorem kb_57 : (Int8.ofInt 57).toInt32 = (57 : Int32) := by decide
theorem kb_60 : (Int8.ofInt 60).toInt32 = (60 : Int32) := by decide
theorem kb_63 : (Int8.ofInt 63).toInt32 = (63 : Int32) := by decide
theorem kb_97 : (Int8.ofInt 97).toInt32 = (97 : Int32) := by decide
theorem kb_99 : (Int8.ofInt 99).toInt32 = (99 : Int32) := by decide
theorem kb_100 : (Int8.ofInt 100).toInt32 = (100 : Int32) := by decide
theorem kb_101 : (Int8.ofInt 101).toInt32 = (101 : Int32) := by decide
theorem kb_102 : (Int8.ofInt 102).toInt32 = (102 : Int32) := by decide
theorem kb_105 : (Int8.ofInt 105).toInt32 = (105 : Int32) := by decide
theorem kb_107 : (Int8.ofInt 107).toInt32 = (107 : Int32) := by decide
theorem kb_108 : (Int8.ofInt 108).toInt32 = (108 : Int32) := by decide
theorem kb_109 : (Int8.ofInt 109).toInt32 = (109 : Int32) := by decide
theorem kb_110 : (Int8.ofInt 110).toInt32 = (110 : Int32) := by decide
theorem kb_111 : (Int8.ofInt 111).toInt32 = (111 : Int32) := by decide
theorem kb_112 : (Int8.ofInt 112).toInt32 = (112 : Int32) := by decide
theorem kb_114 : (Int8.ofInt 114).toInt32 = (114 : Int32) := by decide
theorem kb_115 : (Int8.ofInt 115).toInt32 = (115 : Int32) := by decide
theorem kb_116 : (Int8.ofInt 116).toInt32 = (116 : Int32) := by decide
theorem kb_117 : (Int8.ofInt 117).toInt32 = (117 : Int32) := by decide
theorem kb_118 : (Int8.ofInt 118).toInt32 = (118 : Int32) := by decide
theorem kb_119 : (Int8.ofInt 119).toInt32 = (119 : Int32) := by decide
theorem kb_121 : (Int8.ofInt 121).toInt32 = (121 : Int32) := by decide
theorem kb_122 : (Int8.ofInt 122).toInt32 = (122 : Int32) := by decide
theorem ki_m8 : Int32.ofInt (-8) = ((-8) : Int32) := by decide
theorem ki_m1 : Int32.ofInt (-1) = ((-1) : Int32) := by decide
theorem ki_0 : Int32.ofInt 0 = (0 : Int32) := by decide
theorem ki_1 : Int32.ofInt 1 = (1 : Int32) := by decide
theorem ki_2 : Int32.ofInt 2 = (2 : Int32) := by decide
theorem ki_3 : Int32.ofInt 3 = (3 : Int32) := by decide
theorem ki_4 : Int32.ofInt 4 = (4 : Int32) := by decide
theorem ki_5 : Int32.ofInt 5 = (5 : Int32) := by decide
theorem ki_6 : Int32.ofInt 6 = (6 : Int32) := by decide
theorem ks_m1000 : (Int16.ofInt (-1000)).toInt32 = ((-1000) : Int32) := by decide
theorem ks_144 : (Int16.ofInt 144).toInt32 = (144 : Int32) := by decide
theorem ks_150 : (Int16.ofInt 150).toInt32 = (150 : Int32) := by decide
theorem ks_255 : (Int16.ofInt 255).toInt32 = (255 : Int32) := by decide
theorem ks_256 : (Int16.ofInt 256).toInt32 = (256 : Int32) := by decide
theorem ks_287 : (Int16.ofInt 287).toInt32 = (287 : Int32) := by decide
theorem ks_300 : (Int16.ofInt 300).toInt32 = (300 : Int32) := by decide
theorem ks_320 : (Int16.ofInt 320).toInt32 = (320 : Int32) := by decide
theorem ks_1000 : (Int16.ofInt 1000).toInt32 = (1000 : Int32) := by decide
theorem ks_1001 : (Int16.ofInt 1001).toInt32 = (1001 : Int32) := by decide
theorem ks_3000 : (Int16.ofInt 3000).toInt32 = (3000 : Int32) := by decide
