/-! THE CORE: states as tables of numbers, worlds of fixed cells, walks over them -/
abbrev gSt : Type := (Nat → Int32) × (Nat → Nat → Int32) × Int64
/-- a layout: how many cells, their kinds, lengths, objects (class, fields), first rows of arrays of arrays -/
abbrev gL : Type := Nat × (Nat → Nat) × (Nat → Nat) × (Nat → Nat × List (Nat × Nat)) × (Nat → Nat)
abbrev gCs : Type := ClassId × ClassId × ClassId
/-- which of the two books a number names -/
def gbk (x : Int32) : Nat := if x = 0 then 11 else 12
def gfv (ad : Nat → Nat) (S : gSt) (d : Nat × Nat) : Value := match d.1 with
  | 0 => .int (S.1 d.2)
  | 1 => .ref (ad d.2)
  | 2 => .ref (ad (gbk (S.1 d.2)))
  | _ => .long S.2.2
def gcell (L : gL) (cs : gCs) (ad : Nat → Nat) (S : gSt) (k : Nat) : va_E := match L.2.1 k with
  | 0 => .inr ((L.2.2.2.1 k).1, (L.2.2.2.1 k).2.map (gfv ad S))
  | 1 => .inl (cs.1, L.2.2.1 k, .inl (S.2.1 k))
  | 2 => .inl (cs.2.1, L.2.2.1 k, .inl (S.2.1 k))
  | _ => .inl (cs.2.2, L.2.2.1 k, .inr (.inr (.inr (.inr (fun i => if i < L.2.2.1 k then some (ad (L.2.2.2.2 k + i)) else none)))))
def gW (L : gL) (cs : gCs) (ad : Nat → Nat) (S : gSt) : va_W := (List.range L.1).map (fun k => (ad k, gcell L cs ad S k))
abbrev gty (cs : gCs) : List (ClassId × FieldType) := [(cs.1, .int), (cs.2.1, .boolean), (cs.2.2, .array .int)]
def gA (L : gL) (ad : Nat → Nat) : Nat → Prop := fun q => ∃ k, k < L.1 ∧ q = ad k
def gInj (L : gL) (ad : Nat → Nat) : Prop := ∀ i j, i < L.1 → j < L.1 → ad i = ad j → i = j
theorem gW_at {L : gL} {cs : gCs} {ad : Nat → Nat} {S : gSt} {k : Nat} (hk : k < L.1) : (gW L cs ad S)[k]? = some (ad k, gcell L cs ad S k) := by
  simp [gW, hk]
theorem gW_of {L : gL} {cs : gCs} {ad : Nat → Nat} {S : gSt} {k : Nat} {q : Nat × va_E} (h : (gW L cs ad S)[k]? = some q) : k < L.1 ∧ q = (ad k, gcell L cs ad S k) := by
  have hk : k < L.1 := by
    have h1 := (List.getElem?_eq_some_iff.mp h).1
    simpa [gW] using h1
  rw [gW_at hk] at h
  exact ⟨hk, (Option.some.inj h).symm⟩
theorem gW_set {L : gL} {cs : gCs} {ad : Nat → Nat} {S S' : gSt} {k : Nat} {e : va_E} (h1 : gcell L cs ad S' k = e) (h2 : ∀ j, j < L.1 → j ≠ k → gcell L cs ad S' j = gcell L cs ad S j) : (gW L cs ad S).set k (ad k, e) = gW L cs ad S' := by
  apply List.ext_getElem?
  intro j
  by_cases hj : j < L.1
  · by_cases hjk : j = k
    · subst hjk
      rw [List.getElem?_set_self (by simpa [gW] using hj), gW_at hj, h1]
    · rw [List.getElem?_set_ne (Ne.symm hjk), gW_at hj, gW_at hj, h2 j hj hjk]
  · rw [List.getElem?_eq_none (by simp [gW]; omega), List.getElem?_eq_none (by simp [gW]; omega)]
theorem gW_D {L : gL} {cs : gCs} {ad : Nat → Nat} (S : gSt) (h : gInj L ad) : va_D (gA L ad) (gW L cs ad S) := by
  refine ⟨fun i j p q hi hj e => ?_, fun k q hk => ?_⟩
  · obtain ⟨a1, rfl⟩ := gW_of hi
    obtain ⟨a2, rfl⟩ := gW_of hj
    exact h i j a1 a2 e
  · obtain ⟨a1, rfl⟩ := gW_of hk
    exact ⟨k, a1, rfl⟩
/-! locals: a list with a place for each slot, none where nothing is known -/
def gkn : Nat → List (Option Value) → List (Nat × Value)
  | _, [] => []
  | i, none :: t => gkn (i + 1) t
  | i, some v :: t => (i, v) :: gkn (i + 1) t
theorem gkn_in : ∀ {lv : List (Option Value)} {i j : Nat} {v : Value}, lv[j]? = some (some v) → (i + j, v) ∈ gkn i lv
  | [], i, j, v, h => by simp at h
  | none :: t, i, 0, v, h => by simp at h
  | none :: t, i, j + 1, v, h => by
    have h1 := gkn_in (i := i + 1) (lv := t) (j := j) (v := v) (by simpa using h)
    have e : i + (j + 1) = i + 1 + j := by omega
    rw [e]; exact h1
  | some w :: t, i, 0, v, h => by
    simp at h; subst h; simp [gkn]
  | some w :: t, i, j + 1, v, h => by
    have h1 := gkn_in (i := i + 1) (lv := t) (j := j) (v := v) (by simpa using h)
    have e : i + (j + 1) = i + 1 + j := by omega
    rw [e]; exact List.mem_cons_of_mem _ h1
theorem gkn_of : ∀ {lv : List (Option Value)} {i : Nat} {q : Nat × Value}, q ∈ gkn i lv → ∃ j, q.1 = i + j ∧ lv[j]? = some (some q.2)
  | [], i, q, h => by simp [gkn] at h
  | none :: t, i, q, h => by
    obtain ⟨j, e, hj⟩ := gkn_of (lv := t) (i := i + 1) h
    exact ⟨j + 1, by omega, by simpa using hj⟩
  | some w :: t, i, q, h => by
    rcases List.mem_cons.mp h with rfl | h
    · exact ⟨0, rfl, by simp⟩
    · obtain ⟨j, e, hj⟩ := gkn_of (lv := t) (i := i + 1) h
      exact ⟨j + 1, by omega, by simpa using hj⟩
def gok (ls : Array Slot) (nL : Nat) (lv : List (Option Value)) : Prop := ls.size = nL ∧ lv_wf ls ∧ ∀ (k : Nat) (v : Value), lv[k]? = some (some v) → ls[k]? = some (.val v)
theorem gok.has {ls : Array Slot} {nL : Nat} {lv : List (Option Value)} (h : gok ls nL lv) : lv_has ls nL (gkn 0 lv) := ⟨h.1, h.2.1, fun q hq => by
  obtain ⟨j, e, hj⟩ := gkn_of hq
  rw [e, Nat.zero_add]; exact h.2.2 j q.2 hj⟩
theorem gok.of {ls : Array Slot} {nL : Nat} {lv : List (Option Value)} {l : List (Nat × Value)} (h : lv_has ls nL l) (hl : gkn 0 lv = l) : gok ls nL lv := ⟨h.1, h.2.1, fun k v hk => by
  have h1 := gkn_in (i := 0) hk
  rw [Nat.zero_add, hl] at h1
  exact h.2.2 _ h1⟩
/-- fewer known places -/
def gle : List (Option Value) → List (Option Value) → Prop
  | [], _ => True
  | none :: a, [] => gle a []
  | none :: a, _ :: b => gle a b
  | some _ :: _, [] => False
  | some v :: a, x :: b => x = some v ∧ gle a b
theorem gle_at : ∀ {a b : List (Option Value)} {k : Nat} {v : Value}, gle a b → a[k]? = some (some v) → b[k]? = some (some v)
  | [], b, k, v, h, hk => by simp at hk
  | none :: a, [], 0, v, h, hk => by simp at hk
  | none :: a, [], k + 1, v, h, hk => by
    have h1 := gle_at (a := a) (b := []) (k := k) (v := v) h (by simpa using hk)
    simp at h1
  | none :: a, x :: b, 0, v, h, hk => by simp at hk
  | none :: a, x :: b, k + 1, v, h, hk => by
    simpa using gle_at (a := a) (b := b) (k := k) (v := v) h (by simpa using hk)
  | some w :: a, [], k, v, h, hk => h.elim
  | some w :: a, x :: b, 0, v, h, hk => by
    simp at hk; subst hk; simp [h.1]
  | some w :: a, x :: b, k + 1, v, h, hk => by
    simpa using gle_at (a := a) (b := b) (k := k) (v := v) h.2 (by simpa using hk)
theorem gok.le {ls : Array Slot} {nL : Nat} {a b : List (Option Value)} (h : gok ls nL b) (hl : gle a b) : gok ls nL a := ⟨h.1, h.2.1, fun k v hk => h.2.2 k v (gle_at hl hk)⟩
/-- the slot ahead of i holds no first half of a long -/
def gpv (lv : List (Option Value)) : Nat → Bool
  | 0 => true
  | k + 1 => match lv[k]? with
    | some (some w) => w.category == 1
    | _ => true
theorem gpv_at {lv : List (Option Value)} {i k : Nat} {w : Value} (h : gpv lv i = true) (e : k + 1 = i) (hk : lv[k]? = some (some w)) : ¬ w.category = 2 := by
  subst e
  simp only [gpv, hk] at h
  intro q
  rw [q] at h
  cases h
theorem gok.put1 {ls' : Array Slot} {nL i : Nat} {v : Value} {lv : List (Option Value)} (hpv : gpv lv i = true) (h : lv_has ls' nL ((i, v) :: (gkn 0 lv).filter (fun q => !(q.1 == i) && !(q.1 + 1 == i && q.2.category == 2)))) : gok ls' nL (lv.set i (some v)) := by
  refine ⟨h.1, h.2.1, fun k w hk => ?_⟩
  by_cases e : k = i
  · subst e
    by_cases hl : k < lv.length
    · rw [List.getElem?_set_self hl] at hk
      cases hk
      exact h.2.2 (k, v) List.mem_cons_self
    · rw [List.getElem?_eq_none (by simp; omega)] at hk
      cases hk
  · rw [List.getElem?_set_ne (Ne.symm e)] at hk
    have h1 := gkn_in (i := 0) hk
    rw [Nat.zero_add] at h1
    refine h.2.2 (k, w) (List.mem_cons_of_mem _ (List.mem_filter.mpr ⟨h1, ?_⟩))
    have e1 : (k == i) = false := by simpa using e
    by_cases e2 : k + 1 = i
    · have := gpv_at hpv e2 hk
      simp [e1, this]
    · simp [e1, e2]
theorem gok.put2 {ls' : Array Slot} {nL i : Nat} {v : Value} {lv : List (Option Value)} (hpv : gpv lv i = true) (h : lv_has ls' nL ((i, v) :: (gkn 0 lv).filter (fun q => !(q.1 == i) && (!(q.1 == i + 1) && !(q.1 + 1 == i && q.2.category == 2))))) : gok ls' nL ((lv.set i (some v)).set (i + 1) none) := by
  refine ⟨h.1, h.2.1, fun k w hk => ?_⟩
  by_cases e3 : k = i + 1
  · subst e3
    by_cases hl : i + 1 < lv.length
    · rw [List.getElem?_set_self (by simpa using hl)] at hk
      cases hk
    · rw [List.getElem?_eq_none (by simp; omega)] at hk
      cases hk
  rw [List.getElem?_set_ne (Ne.symm e3)] at hk
  by_cases e : k = i
  · subst e
    by_cases hl : k < lv.length
    · rw [List.getElem?_set_self hl] at hk
      cases hk
      exact h.2.2 (k, v) List.mem_cons_self
    · rw [List.getElem?_eq_none (by simp; omega)] at hk
      cases hk
  · rw [List.getElem?_set_ne (Ne.symm e)] at hk
    have h1 := gkn_in (i := 0) hk
    rw [Nat.zero_add] at h1
    refine h.2.2 (k, w) (List.mem_cons_of_mem _ (List.mem_filter.mpr ⟨h1, ?_⟩))
    have e1 : (k == i) = false := by simpa using e
    have e4 : (k == i + 1) = false := by simpa using e3
    by_cases e2 : k + 1 = i
    · have := gpv_at hpv e2 hk
      simp [e1, this, e4]
    · simp [e1, e2, e4]
/-! contracts -/
/-- what is said of the start beside the world: it stays, where no cell outside the world changes -/
def gZok (A : Nat → Prop) (Z : State → Prop) : Prop := (∀ U U' : State, U.vm = U'.vm → U.heap = U'.heap → Z U → Z U') ∧ ∀ U U' : State, U.WarmedH U'.vm → (∀ a : Nat, a < U.heap.size → ¬ A a → U'.heap[a]? = U.heap[a]?) → Z U → Z U'
abbrev gRm (d : Nat) : Room := { frames := d, cells := 0, slots := 0, locals := 60 * d }
def gPre (D : va_G) (cs : gCs) (L : gL) (ad : Nat → Nat) (Z : State → Prop) (av : List Value) (S : gSt) : Array Value → State → Prop := va_Pc av (fun U => va_P D gcl (gW L cs ad S) U.heap ∧ va_K D gcl (gty cs) U ∧ Z U)
def gPost (D : va_G) (cs : gCs) (L : gL) (ad : Nat → Nat) (Q : Option Value → gSt → Prop) : Array Value → State → Outcome → State → Prop := fun _ st oc t => (∃ (v : Option Value) (S' : gSt), oc = .returned v ∧ Q v S' ∧ va_P D gcl (gW L cs ad S') t.heap) ∧ va_F (gA L ad) st t
def gCT (l : Launch) (D : va_G) (cs : gCs) (L : gL) (ad : Nat → Nat) (Z : State → Prop) (d : Nat) (y : MethodName) (cc : ByteArray) (nL : Nat) (ret : Option FieldType) (av : List Value) (S : gSt) (Q : Option Value → gSt → Prop) : Prop :=
  Met l y (Cond.code y cc nL ret :: TT) (gRm d) (gPre D cs L ad Z av S) (gPost D cs L ad Q) 0 0 (gA L ad)
def gGo (p : Program) (l : Launch) (e : Env) (R : Room) (s : State) (m : MethodId) (args : Array Value) (below : List Frame) (meth : Method) (c : Code) (D : va_G) (cs : gCs) (L : gL) (ad : Nat → Nat) (nL : Nat) (Qf : State → Prop) (pc : Nat) (lv : List (Option Value)) (st : List Value) (S : gSt) : Prop :=
  ∀ (H : Heap) (locs : List Loc) (ls : Array Slot), va_P D gcl (gW L cs ad S) H → va_S (gA L ad) s.heap H locs → gok ls nL lv → W p l e R s m args below meth c H locs 0 0 Qf (F0 m pc ls st)
abbrev gG : Type := Nat → List (Option Value) → List Value → gSt → Prop
def gSim (l : Launch) (D : va_G) (cs : gCs) (L : gL) (ad : Nat → Nat) (Z : State → Prop) (d : Nat) (own : String) (cc : ByteArray) (nL : Nat) (ret : Option FieldType) (G : gG) (Rt : Option Value → gSt → Prop) : Prop :=
  ∃ (p : Program) (e : Env) (s : State) (m : MethodId) (args : Array Value) (below : List Frame) (meth : Method) (c : Code), p.tables.exec = Jvm.exec ∧ c.code = cc ∧ c.maxLocals = nL ∧ s.vm.findClass own = some m.cls ∧ (∀ w ∈ TT, w.before args s = true) ∧ meth.sig.returnType = ret ∧ meth.locks = false ∧ va_K D gcl (gty cs) s ∧ Z s ∧ gInj L ad ∧ gZok (gA L ad) Z ∧
    G = gGo p l e (gRm d) s m args below meth c D cs L ad nL (MQ below (gPost D cs L ad Rt) args s 0 0 (gA L ad))
/-- a method's contract out of a walk -/
theorem met_walk {l : Launch} {D : va_G} {cs : gCs} {L : gL} {ad : Nat → Nat} {Z : State → Prop} {d : Nat} {y : MethodName} {cc : ByteArray} {nL : Nat} {ret : Option FieldType} {av : List Value} {S : gSt} {Q : Option Value → gSt → Prop} {lv0 : List (Option Value)}
    (hE : gInj L ad ∧ gZok (gA L ad) Z) (hy : plainName y.cls = true) (hn : (lg_sl av).length ≤ nL) (hlv : gkn 0 lv0 = lv_args 0 av)
    (walk : ∀ (G : gG) (Rt : Option Value → gSt → Prop), gSim l D cs L ad Z d y.cls cc nL ret G Rt → (∀ v S', Q v S' → Rt v S') → G 0 lv0 [] S) : gCT l D cs L ad Z d y cc nL ret av S Q := by
  refine Met.ofW (cc := cc) (maxL := nL) (ret := ret) hy rfl ?_
  intro p e s m args below meth c s₁ B hml hv
  obtain ⟨rfl, hP, hK, hZ⟩ := hv
  have hts := atoms_spec (ws := Cond.code y cc nL ret :: TT) B.pre
  have hl := lv_entry av (n := nL) hn
  rw [lg_entry_eq]
  have h := walk _ Q ⟨p, e, s, m, av.toArray, below, meth, c, B.exec, B.bytes, hml, findClass_of_methodNamed B.named, fun w hw => hts w (List.mem_cons_of_mem _ hw), B.returns, B.notSynchronized, hK, hZ, hE.1, hE.2, rfl⟩ (fun _ _ h => h)
  exact h s.heap [] _ hP va_S.rf (gok.of hl hlv)
