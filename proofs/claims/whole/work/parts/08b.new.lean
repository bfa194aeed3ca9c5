/-! CONSTRUCTORS: the own object's fields, and the cells made so far -/
abbrev nG : Type := Nat → List (Option Value) → List Value → List Value → va_W → Nat → Nat → Prop
abbrev nRm (d mc ms : Nat) : Room := { frames := d, cells := mc, slots := ms, locals := 60 * d }
def nPre (D : va_G) (cs : gCs) (Zn : State → Prop) (h0 ci : Nat) (fs0 As : List Value) (sz : Nat) : Array Value → State → Prop := va_Pc (.ref h0 :: As) (fun U => U.heap.size = sz ∧ va_P D gcl [(h0, .inr (ci, fs0))] U.heap ∧ va_K D gcl (gty cs) U ∧ Zn U)
def nPost (D : va_G) (mk : List Nat → va_W) (A : Nat → Prop) : Array Value → State → Outcome → State → Prop := fun _ st oc t => (∃ u : List Nat, oc = .returned none ∧ va_P D gcl (mk u) t.heap ∧ va_D A (mk u)) ∧ va_F A st t
def nCT (l : Launch) (D : va_G) (cs : gCs) (Zn : State → Prop) (d : Nat) (y : MethodName) (cc : ByteArray) (nL h0 ci : Nat) (fs0 As : List Value) (mc ms : Nat) (mk : List Nat → va_W) : Prop :=
  ∀ sz : Nat, Met l y (Cond.code y cc nL none :: TT) (nRm d mc ms) (nPre D cs Zn h0 ci fs0 As sz) (nPost D mk (va_A [(h0, .inr (ci, fs0))] sz)) mc ms (va_A [(h0, .inr (ci, fs0))] sz)
def nZok (Zn : State → Prop) : Prop := (∀ U U' : State, U.vm = U'.vm → Zn U → Zn U') ∧ ∀ U U' : State, U.WarmedH U'.vm → Zn U → Zn U'
theorem nZ_true : nZok (fun _ => True) := ⟨fun _ _ _ h => h, fun _ _ _ h => h⟩
def nGo (p : Program) (l : Launch) (e : Env) (R : Room) (s : State) (m : MethodId) (args : Array Value) (below : List Frame) (meth : Method) (c : Code) (D : va_G) (A : Nat → Prop) (h0 ci nL : Nat) (Qf : State → Prop) (pc : Nat) (lv : List (Option Value)) (st fs : List Value) (tl : va_W) (nc ns : Nat) : Prop :=
  ∀ (H : Heap) (locs : List Loc) (ls : Array Slot), va_P D gcl ((h0, .inr (ci, fs)) :: tl) H → va_D A ((h0, .inr (ci, fs)) :: tl) → va_S A s.heap H locs → gok ls nL lv → W p l e R s m args below meth c H locs nc ns Qf (F0 m pc ls st)
def nSim (l : Launch) (D : va_G) (cs : gCs) (Zn : State → Prop) (d mc ms : Nat) (own : String) (cc : ByteArray) (nL h0 ci : Nat) (G : nG) (Rt : va_W → Prop) : Prop :=
  ∃ (p : Program) (e : Env) (s : State) (m : MethodId) (args : Array Value) (below : List Frame) (meth : Method) (c : Code) (A : Nat → Prop) (Qf : State → Prop), p.tables.exec = Jvm.exec ∧ c.code = cc ∧ c.maxLocals = nL ∧ s.vm.findClass own = some m.cls ∧ (∀ w ∈ TT, w.before args s = true) ∧ meth.sig.returnType = none ∧ meth.locks = false ∧ meth.name = "<init>" ∧ va_K D gcl (gty cs) s ∧ Zn s ∧ nZok Zn ∧ (∀ q : Nat, s.heap.size ≤ q → A q) ∧
    (∀ (H : Heap) (locs : List Loc) (ls : Array Slot) (pc : Nat) (ws : va_W), va_P D gcl ws H → va_D A ws → va_S A s.heap H locs → decode cc pc = .ok (.return_, 1) → Rt ws → W p l e (nRm d mc ms) s m args below meth c H locs mc ms Qf (F0 m pc ls [])) ∧
    G = nGo p l e (nRm d mc ms) s m args below meth c D A h0 ci nL Qf
theorem met_new {l : Launch} {D : va_G} {cs : gCs} {Zn : State → Prop} {d : Nat} {y : MethodName} {cc : ByteArray} {nL h0 ci : Nat} {fs0 As : List Value} {mc ms : Nat} {mk : List Nat → va_W} {lv0 : List (Option Value)}
    (hz : nZok Zn) (hy : plainName y.cls = true) (hyn : y.name = "<init>") (hn : (lg_sl (.ref h0 :: As)).length ≤ nL) (hlv : gkn 0 lv0 = lv_args 0 (.ref h0 :: As))
    (walk : ∀ (G : nG) (Rt : va_W → Prop), nSim l D cs Zn d mc ms y.cls cc nL h0 ci G Rt → (∀ u, Rt (mk u)) → G 0 lv0 [] fs0 [] 0 0) : nCT l D cs Zn d y cc nL h0 ci fs0 As mc ms mk := by
  intro sz
  refine Met.ofW (cc := cc) (maxL := nL) (ret := none) hy rfl ?_
  intro p e s m args below meth c s₁ B hml hv
  obtain ⟨rfl, hsz, hP, hK, hZ⟩ := hv
  subst hsz
  have hts := atoms_spec (ws := Cond.code y cc nL none :: TT) B.pre
  have hl := lv_entry (.ref h0 :: As) (n := nL) hn
  have hin : meth.name = "<init>" := ((name_of_methodNamed B.named B.method).1).trans hyn
  have hD0 : va_D (fun _ => True) [((h0, .inr (ci, fs0)) : Nat × va_E)] := ⟨fun i j x z hi hj _ => by
    have h1 : i < 1 := (List.getElem?_eq_some_iff.mp hi).1
    have h2 : j < 1 := (List.getElem?_eq_some_iff.mp hj).1
    omega, fun _ _ _ => trivial⟩
  rw [lg_entry_eq]
  have hr := B.returns
  have hlocks := B.notSynchronized
  have h := walk _ (fun ws => ∃ u, ws = mk u) ⟨p, e, s, m, (Value.ref h0 :: As).toArray, below, meth, c, va_A [(h0, .inr (ci, fs0))] s.heap.size, MQ below (nPost D mk (va_A [(h0, .inr (ci, fs0))] s.heap.size)) (Value.ref h0 :: As).toArray s mc ms (va_A [(h0, .inr (ci, fs0))] s.heap.size), B.exec, B.bytes, hml, findClass_of_methodNamed B.named, fun w hw => hts w (List.mem_cons_of_mem _ hw), hr, hlocks, hin, hK, hZ, hz, fun q h => Or.inr h, fun H locs ls pc ws hP hD hS hd hR => by
    obtain ⟨u, rfl⟩ := hR
    exact W.vret B.exec B.bytes hr (fun t ht hW => ⟨⟨u, rfl, by rw [ht]; exact hP, hD⟩, hS.F ht⟩) hS.2.2 hd, rfl⟩ (fun u => ⟨u, rfl⟩)
  exact h s.heap [] _ hP (hD0.self (sz := s.heap.size)) va_S.rf (gok.of hl hlv)
section NROWS
variable {l : Launch} {D : va_G} {cs : gCs} {Zn : State → Prop} {d mc ms : Nat} {own : String} {cc : ByteArray} {nL h0 ci : Nat} {G : nG} {Rt : va_W → Prop} {pc n nc ns : Nat} {lv lv2 : List (Option Value)} {st fs : List Value} {tl : va_W}
theorem n_iconst (h : nSim l D cs Zn d mc ms own cc nL h0 ci G Rt) {z : Int} {v : Int32} (hd : decode cc pc = .ok (.iconst z, 1)) (hv : Int32.ofInt z = v) (hn : pc + 1 = n) (k : G n lv (.int v :: st) fs tl nc ns) : G pc lv st fs tl nc ns := by
  subst hn
  obtain ⟨p, e, s, m, args, below, meth, c, A, Qf, hx, hb, hml, ho, hts, hr, hlk, hin, hK, hZ, hz, hA, hR, rfl⟩ := h
  exact fun H locs ls hP hD hS hl => lv_iconst hx hb hd hv (k H locs ls hP hD hS hl)
theorem n_bipush (h : nSim l D cs Zn d mc ms own cc nL h0 ci G Rt) {z : Int} {v : Int32} (hd : decode cc pc = .ok (.bipush z, 2)) (hv : (Int8.ofInt z).toInt32 = v) (hn : pc + 2 = n) (k : G n lv (.int v :: st) fs tl nc ns) : G pc lv st fs tl nc ns := by
  subst hn
  obtain ⟨p, e, s, m, args, below, meth, c, A, Qf, hx, hb, hml, ho, hts, hr, hlk, hin, hK, hZ, hz, hA, hR, rfl⟩ := h
  exact fun H locs ls hP hD hS hl => lv_bipush hx hb hd hv (k H locs ls hP hD hS hl)
theorem n_sipush (h : nSim l D cs Zn d mc ms own cc nL h0 ci G Rt) {z : Int} {v : Int32} (hd : decode cc pc = .ok (.sipush z, 3)) (hv : (Int16.ofInt z).toInt32 = v) (hn : pc + 3 = n) (k : G n lv (.int v :: st) fs tl nc ns) : G pc lv st fs tl nc ns := by
  subst hn
  obtain ⟨p, e, s, m, args, below, meth, c, A, Qf, hx, hb, hml, ho, hts, hr, hlk, hin, hK, hZ, hz, hA, hR, rfl⟩ := h
  exact fun H locs ls hP hD hS hl => lv_sipush hx hb hd hv (k H locs ls hP hD hS hl)
theorem n_aload_n (h : nSim l D cs Zn d mc ms own cc nL h0 ci G Rt) {j : Fin 4} {x : Nat} (hd : decode cc pc = .ok (.aload_n j, 1)) (hv : lv[(j : Nat)]? = some (some (.ref x))) (hn : pc + 1 = n) (k : G n lv (.ref x :: st) fs tl nc ns) : G pc lv st fs tl nc ns := by
  subst hn
  obtain ⟨p, e, s, m, args, below, meth, c, A, Qf, hx, hb, hml, ho, hts, hr, hlk, hin, hK, hZ, hz, hA, hR, rfl⟩ := h
  exact fun H locs ls hP hD hS hl => lv_aload_n hx hb hd rfl (hl.2.2 _ _ hv) (k H locs ls hP hD hS hl)
theorem n_aload (h : nSim l D cs Zn d mc ms own cc nL h0 ci G Rt) {j : Nat} {x : Nat} (hd : decode cc pc = .ok (.aload j, 2)) (hv : lv[j]? = some (some (.ref x))) (hn : pc + 2 = n) (k : G n lv (.ref x :: st) fs tl nc ns) : G pc lv st fs tl nc ns := by
  subst hn
  obtain ⟨p, e, s, m, args, below, meth, c, A, Qf, hx, hb, hml, ho, hts, hr, hlk, hin, hK, hZ, hz, hA, hR, rfl⟩ := h
  exact fun H locs ls hP hD hS hl => lv_aload hx hb hd (hl.2.2 _ _ hv) (k H locs ls hP hD hS hl)
theorem n_astore_n (h : nSim l D cs Zn d mc ms own cc nL h0 ci G Rt) {j : Fin 4} {x : Nat} (hd : decode cc pc = .ok (.astore_n j, 1)) (hc : (gpv lv (j : Nat) && Nat.ble ((j : Nat) + 1) nL) = true) (hv : lv.set (j : Nat) (some (.ref x)) = lv2) (hn : pc + 1 = n) (k : G n lv2 st fs tl nc ns) : G pc lv (.ref x :: st) fs tl nc ns := by
  subst hn
  subst hv
  obtain ⟨p, e, s, m, args, below, meth, c, A, Qf, hx, hb, hml, ho, hts, hr, hlk, hin, hK, hZ, hz, hA, hR, rfl⟩ := h
  obtain ⟨hc1, hc2⟩ := Bool.and_eq_true_iff.mp hc
  exact fun H locs ls hP hD hS hl => lv_astore_n hx hb hd rfl hl.has (Nat.le_of_ble_eq_true hc2) rfl (fun ls2 h2 => k H locs ls2 hP hD hS (gok.put1 hc1 h2))
theorem n_astore (h : nSim l D cs Zn d mc ms own cc nL h0 ci G Rt) {j : Nat} {x : Nat} (hd : decode cc pc = .ok (.astore j, 2)) (hc : (gpv lv j && Nat.ble (j + 1) nL) = true) (hv : lv.set j (some (.ref x)) = lv2) (hn : pc + 2 = n) (k : G n lv2 st fs tl nc ns) : G pc lv (.ref x :: st) fs tl nc ns := by
  subst hn
  subst hv
  obtain ⟨p, e, s, m, args, below, meth, c, A, Qf, hx, hb, hml, ho, hts, hr, hlk, hin, hK, hZ, hz, hA, hR, rfl⟩ := h
  obtain ⟨hc1, hc2⟩ := Bool.and_eq_true_iff.mp hc
  exact fun H locs ls hP hD hS hl => lv_astore hx hb hd hl.has (Nat.le_of_ble_eq_true hc2) rfl (fun ls2 h2 => k H locs ls2 hP hD hS (gok.put1 hc1 h2))
theorem n_dup (h : nSim l D cs Zn d mc ms own cc nL h0 ci G Rt) {x : Nat} (hd : decode cc pc = .ok (.dup, 1)) (hn : pc + 1 = n) (k : G n lv (.ref x :: .ref x :: st) fs tl nc ns) : G pc lv (.ref x :: st) fs tl nc ns := by
  subst hn
  obtain ⟨p, e, s, m, args, below, meth, c, A, Qf, hx, hb, hml, ho, hts, hr, hlk, hin, hK, hZ, hz, hA, hR, rfl⟩ := h
  exact fun H locs ls hP hD hS hl => lv_dup hx hb hd rfl (k H locs ls hP hD hS hl)
theorem n_lconst0 (h : nSim l D cs Zn d mc ms own cc nL h0 ci G Rt) (hd : decode cc pc = .ok (.lconst 0, 1)) (hn : pc + 1 = n) (k : G n lv (.long 0 :: st) fs tl nc ns) : G pc lv st fs tl nc ns := by
  subst hn
  obtain ⟨p, e, s, m, args, below, meth, c, A, Qf, hx, hb, hml, ho, hts, hr, hlk, hin, hK, hZ, hz, hA, hR, rfl⟩ := h
  exact fun H locs ls hP hD hS hl => lv_lconst hx hb hd kl_0 (k H locs ls hP hD hS hl)
theorem n_objinit (h : nSim l D cs Zn d mc ms own cc nL h0 ci G Rt) {a i : Nat} (hw : Cond.methodLink own i Lib.objectInit ∈ TT) (hd : decode cc pc = .ok (.invokespecial i, 3)) (hdd : 1 ≤ d) (hn : pc + 3 = n) (k : G n lv [] fs tl nc ns) : G pc lv [.ref a] fs tl nc ns := by
  subst hn
  obtain ⟨p, e, s, m, args, below, meth, c, A, Qf, hx, hb, hml, ho, hts, hr, hlk, hin, hK, hZ, hz, hA, hR, rfl⟩ := h
  exact fun H locs ls hP hD hS hl => W.objInit hx hb ho (hts _ hw) (hts _ (TT_in 90 (by decide +kernel) rfl)) (hts _ (TT_in 91 (by decide +kernel) rfl)) rfl (hl.1.trans hml.symm) rfl hd hdd (by show 2 * 0 + 0 + 12 ≤ 60 * d; omega) (k H locs ls hP hD hS hl)
theorem n_ret (h : nSim l D cs Zn d mc ms own cc nL h0 ci G Rt) (hd : decode cc pc = .ok (.return_, 1)) (k : Rt ((h0, .inr (ci, fs)) :: tl)) : G pc lv [] fs tl mc ms := by
  obtain ⟨p, e, s, m, args, below, meth, c, A, Qf, hx, hb, hml, ho, hts, hr, hlk, hin, hK, hZ, hz, hA, hR, rfl⟩ := h
  exact fun H locs ls hP hD hS hl => hR H locs ls pc _ hP hD hS hd k
theorem n_put (h : nSim l D cs Zn d mc ms own cc nL h0 ci G Rt) {C : String} {T : u_T} {N j idx : Nat} {v : Value} {fs2 : List Value} {ty : Nat → FieldType} (hc : gcl[ci]? = some (C, T, N) ∧ j < N ∧ (T j).1 = own ∧ j < fs.length) (hin0 : ∀ w ∈ u_ws C T N, w ∈ TT) (hty : ∀ k, k < N → parseFieldDescriptor (T k).2.2.1 = some (ty k)) (hnm : ∀ a, a < N → ∀ b, b < N → a ≠ b → (T a).2.1 ≠ (T b).2.1) (hw : Cond.fieldLink own idx (T j).1 (T j).2.1 (T j).2.2.1 ∈ TT) (hnr : narrow (ty j) v = v ∧ fits (ty j) v = true) (hd : decode cc pc = .ok (.putfield idx, 3)) (hn : pc + 3 = n) (hf : fs.set j v = fs2) (k : G n lv st fs2 tl nc ns) : G pc lv (v :: .ref h0 :: st) fs tl nc ns := by
  subst hn
  subst hf
  obtain ⟨p, e, s, m, args, below, meth, c, A, Qf, hx, hb, hml, ho, hts, hr, hlk, hin, hK, hZ, hz, hA, hR, rfl⟩ := h
  intro H locs ls hP hD hS hl
  obtain ⟨c1, c2, c3, c4⟩ := hc
  by_cases hfin : (T j).2.2.2 = true
  · exact va_putF hx hb hts hin0 ty hty hnm ho hK hP hD hS 0 rfl c1 j c2 (hts _ hw) (fun _ h9 => h9) hfin hin c3 (hty j c2) hnr.1 hnr.2 c4 hd (fun H1 locs1 hP1 hD1 hS1 => k H1 locs1 ls hP1 hD1 hS1 hl)
  · exact va_put hx hb hts hin0 ty hty hnm ho hK hP hD hS 0 rfl c1 j c2 (hts _ hw) (fun _ h9 => h9) (by cases hq : (T j).2.2.2 with | true => exact absurd hq hfin | false => rfl) (hty j c2) hnr.1 hnr.2 c4 hd (fun H1 locs1 hP1 hD1 hS1 => k H1 locs1 ls hP1 hD1 hS1 hl)
theorem n_new (h : nSim l D cs Zn d mc ms own cc nL h0 ci G Rt) {C : String} {T : u_T} {N cj idx : Nat} {f0 : List Value} {ty : Nat → FieldType} (hc : gcl[cj]? = some (C, T, N)) (hin0 : ∀ w ∈ u_ws C T N, w ∈ TT) (hty : ∀ k, k < N → parseFieldDescriptor (T k).2.2.1 = some (ty k)) (hw : Cond.classLink own idx C ∈ TT ∧ Cond.instantiable C N ∈ TT ∧ Cond.initialized C ∈ TT) (hf : ∀ j, j < N → defaultValue (ty j) = vp_V f0 j) (hroom : nc + 1 ≤ mc ∧ ns + N ≤ ms) (hd : decode cc pc = .ok (.new idx, 3)) (hn : pc + 3 = n) (k : ∀ q : Nat, G n lv (.ref q :: st) fs (tl ++ [(q, .inr (cj, f0))]) (nc + 1) (ns + N)) : G pc lv st fs tl nc ns := by
  subst hn
  obtain ⟨p, e, s, m, args, below, meth, c, A, Qf, hx, hb, hml, ho, hts, hr, hlk, hin, hK, hZ, hz, hA, hR, rfl⟩ := h
  intro H locs ls hP hD hS hl
  exact va_new hx hb hts hin0 ty hty ho (hts _ hw.1) (hts _ hw.2.1) (hts _ hw.2.2) hK hP hD hS hA hc hf hroom.1 hroom.2 hd (fun q H1 hP1 hD1 hS1 => k q H1 locs ls hP1 hD1 hS1 hl)
theorem nca {s : State} {t : FieldType} {cA : ClassId} {j : Nat} {c0 : ClassId} (hK : va_K D gcl (gty cs) s) (hj : (gty cs)[j]? = some (c0, t)) (hprim : ∀ C, t ≠ .object C) (hK2 : va_K D gcl (gty cs ++ [(cA, t)]) s) : cA = c0 := by
  have h1 := (hK.2 j _ hj).2
  have h2 := (hK2.2 3 (cA, t) rfl).2
  have e1 : s.vm.findClass ("[" ++ t.toString) = some c0 := by cases t <;> first | exact h1 | exact absurd rfl (hprim _)
  have e2 : s.vm.findClass ("[" ++ t.toString) = some cA := by cases t <;> first | exact h2 | exact absurd rfl (hprim _)
  exact Option.some.inj (e2.symm.trans e1)
theorem n_newI (h : nSim l D cs Zn d mc ms own cc nL h0 ci G Rt) {v : Int32} {N : Nat} (hd : decode cc pc = .ok (.newarray .int, 2)) (hv : ¬ v < 0 ∧ v.toNatClampNeg = N ∧ N ≤ 1000) (hroom : nc + 1 ≤ mc ∧ ns + N ≤ ms) (hn : pc + 2 = n) (k : ∀ q : Nat, G n lv (.ref q :: st) fs (tl ++ [(q, .inl (cs.1, N, .inl (fun _ => 0)))]) (nc + 1) (ns + N)) : G pc lv (.int v :: st) fs tl nc ns := by
  subst hn
  obtain ⟨p, e, s, m, args, below, meth, c, A, Qf, hx, hb, hml, ho, hts, hr, hlk, hin, hK, hZ, hz, hA, hR, rfl⟩ := h
  intro H locs ls hP hD hS hl
  refine va_newa (a0 := (N, .inl (fun _ => 0))) hx hb (hts _ (TT_in 111 (by decide +kernel) rfl)) rfl hK hP hD hS hA (fun cA => rfl) hv.1 hv.2.1 (by show N * 4 ≤ 536870912; omega) hroom.1 hroom.2 hd (fun q cA H1 hK1 hP1 hD1 hS1 => ?_)
  have e9 := nca (j := 0) hK rfl (fun C q => by cases q) hK1
  subst e9
  exact k q H1 locs ls hP1 hD1 hS1 hl
theorem n_newZ (h : nSim l D cs Zn d mc ms own cc nL h0 ci G Rt) {v : Int32} {N : Nat} (hd : decode cc pc = .ok (.newarray .boolean, 2)) (hv : ¬ v < 0 ∧ v.toNatClampNeg = N ∧ N ≤ 1000) (hroom : nc + 1 ≤ mc ∧ ns + N ≤ ms) (hn : pc + 2 = n) (k : ∀ q : Nat, G n lv (.ref q :: st) fs (tl ++ [(q, .inl (cs.2.1, N, .inl (fun _ => 0)))]) (nc + 1) (ns + N)) : G pc lv (.int v :: st) fs tl nc ns := by
  subst hn
  obtain ⟨p, e, s, m, args, below, meth, c, A, Qf, hx, hb, hml, ho, hts, hr, hlk, hin, hK, hZ, hz, hA, hR, rfl⟩ := h
  intro H locs ls hP hD hS hl
  refine va_newa (a0 := (N, .inl (fun _ => 0))) hx hb (hts _ (TT_in 140 (by decide +kernel) rfl)) rfl hK hP hD hS hA (fun cA => rfl) hv.1 hv.2.1 (by show N * 1 ≤ 536870912; omega) hroom.1 hroom.2 hd (fun q cA H1 hK1 hP1 hD1 hS1 => ?_)
  have e9 := nca (j := 1) hK rfl (fun C q => by cases q) hK1
  subst e9
  exact k q H1 locs ls hP1 hD1 hS1 hl
/-- a new object's constructor, called on the cell made last -/
theorem n_call (h : nSim l D cs Zn d mc ms own cc nL h0 ci G Rt) {y : MethodName} {b : ByteArray} {mL d2 idx na q cj mc2 ms2 : Nat} {f0 As st0 : List Value} {mk : List Nat → va_W} {Z2 : State → Prop} {host : String} (hm : nCT l D cs Z2 d2 y b mL q cj f0 As mc2 ms2 mk) (hz2 : nZok Z2 ∧ ∀ U, Zn U → Z2 U) (hce : gCe y b mL na none ∧ Cond.instanceMethod y ∈ TT ∧ y.name = "<init>") (hw : Cond.methodLink own idx y ∈ TT ∨ ∀ U, Zn U → va_Nw (.methodLinkNest own idx y host) U) (hst : st0 = As.reverse ++ .ref q :: st) (hk : As.length = na ∧ (st.map fun v => v.category).sum ≤ 8 ∧ d2 < d) (hroom : nc + mc2 ≤ mc ∧ ns + ms2 ≤ ms) (hd : decode cc pc = .ok (.invokespecial idx, 3)) (hn : pc + 3 = n) (k : ∀ u : List Nat, G n lv st fs (tl ++ mk u) (nc + mc2) (ns + ms2)) : G pc lv st0 fs (tl ++ [(q, .inr (cj, f0))]) nc ns := by
  subst hn
  obtain ⟨p, e, s, m, args, below, meth, c, A, Qf, hx, hb, hml, ho, hts, hr, hlk, hin, hK, hZ, hz, hA, hR, rfl⟩ := h
  intro H locs ls hP hD hS hl
  obtain ⟨⟨c1, c2, c3, c4⟩, c5, c6⟩ := hce
  let tl' : va_W := (h0, .inr (ci, fs)) :: tl
  have hP' : va_P D gcl (tl' ++ [(q, .inr (cj, f0))]) H := hP
  have hD' : va_D A (tl' ++ [(q, .inr (cj, f0))]) := hD
  have hC : [tl'.length].map (fun i => (tl' ++ [((q, .inr (cj, f0)) : Nat × va_E)])[i]?) = ([((q, .inr (cj, f0)) : Nat × va_E)]).map some := by simp
  have hRr : (List.range tl'.length).map (fun i => (tl' ++ [((q, .inr (cj, f0)) : Nat × va_E)])[i]?) = tl'.map some := by
    apply List.ext_getElem?
    intro i
    by_cases hi : i < tl'.length
    · rw [List.getElem?_map, List.getElem?_range hi, List.getElem?_map]
      simp [List.getElem?_append_left hi, List.getElem?_eq_getElem hi]
    · rw [List.getElem?_eq_none (by simp; omega), List.getElem?_eq_none (by simp; omega)]
  have hnd : va_nd (List.range tl'.length) = true := by
    have : ∀ (l : List Nat), l.Nodup → va_nd l = true := by
      intro l hl
      induction l with
      | nil => rfl
      | cons a t ih =>
        have h1 := List.nodup_cons.mp hl
        simp [va_nd, h1.1, ih h1.2]
    exact this _ List.nodup_range
  have hdis : ∀ i ∈ List.range tl'.length, i ∉ [tl'.length] := fun i hi => by
    have := List.mem_range.mp hi
    simp; omega
  have hFc := va_free hD' hS hA [tl'.length] hC
  have hPc : va_P D gcl [(q, .inr (cj, f0))] H := fun i x hi => by
    have h1 : i < 1 := (List.getElem?_eq_some_iff.mp hi).1
    have h2 : i = 0 := by omega
    subst h2
    exact hP' tl'.length x (by simpa using hi)
  have hbl : FrameBlind (nPre D cs Z2 q cj f0 As H.size) := fun a U g mk q => by
    obtain ⟨q0, q1, qP, qK, qZ⟩ := q
    exact ⟨q0, q1, qP, va_K.moved (u := U) (U := U.calling g mk a) (Vm.Alike.refl U.vm) qK, hz2.1.1 U _ rfl qZ⟩
  have hpre : PreS s H (nPre D cs Z2 q cj f0 As H.size) (.ref q :: As) := ⟨hbl, fun U hU hW => ⟨rfl, by rw [hU], by rw [hU]; exact hPc, va_K.moved hW.alike hK, hz2.1.2 s U hW (hz2.2 s hZ)⟩⟩
  have hrun : va_Run p l e (nRm d mc ms) s m args below meth c H locs nc ns mc2 ms2 (F0 m pc ls st0) st (nPost D mk (va_A [(q, .inr (cj, f0))] H.size) (Value.ref q :: As).toArray) (va_A [(q, .inr (cj, f0))] H.size) := by
    rcases hw with hw | hw
    · exact va_runI (As := As) (rest := st) ⟨hx, hb, hml, ho, hts⟩ (hm H.size) ⟨callB_of na hts (gTT c1) rfl rfl rfl (hts _ c2) (hts _ hw) c4 ⟨hk.2.2, by show 8 + (mL + 11) + 60 * d2 ≤ 60 * d; omega⟩, c6, hts _ c5⟩ hpre rfl hk.1 hl.1 hst (by show 2 * 0 + _ ≤ 8; omega) hd hroom
    · exact va_runIN (As := As) (rest := st) (host := host) ⟨hx, hb, hml, ho, hts⟩ (hm H.size) ⟨va_cnB na hts (gTT c1) rfl rfl rfl (hw s hZ) (hts _ c2) c4 ⟨hk.2.2, by show 8 + (mL + 11) + 60 * d2 ≤ 60 * d; omega⟩, c6, hts _ c5⟩ hpre rfl hk.1 hl.1 hst (by show 2 * 0 + _ ≤ 8; omega) hd hroom
  intro T hT X
  obtain ⟨v, st₀, t, T', Lc, e0, X', hL, e1, e2, ⟨⟨u, hv, hp, hdd⟩, hzz, hkk⟩, stp⟩ := hrun T hT X
  cases hv
  rw [e0] at hzz hkk
  have hp1 : va_P D gcl (mk u) T'.heap := by rw [e1]; exact hp
  have hk1 : ∀ x : Nat, x < H.size → ¬ va_A [((q, .inr (cj, f0)) : Nat × va_E)] H.size x → T'.heap[x]? = H[x]? := fun x h1 h2 => by rw [e1]; exact hkk x h1 h2
  obtain ⟨hPj, hDj⟩ := va_join hP' hD' [tl'.length] (List.range tl'.length) hC hRr hnd hdis hk1 hFc hp1 hdd
  obtain ⟨t2, a1, b1⟩ := k u T'.heap (locs ++ Lc) ls hPj hDj ⟨Nat.le_trans hS.1 (by rw [e1]; exact hzz), fun x h1 h2 => by rw [hk1 x (Nat.lt_of_lt_of_le h1 hS.1) (fun z => h2 (hFc x z))]; exact hS.2.1 x h1 h2, fun x hx9 => by
      rcases List.mem_append.mp hx9 with h | h
      · exact hS.2.2 x h
      · exact hFc _ (hL x h)⟩ hl T' rfl X'
  exact ⟨t2, stp t2 a1, b1⟩
end NROWS
