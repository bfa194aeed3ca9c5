theorem kl_0 : Int64.ofNat ((0 : Fin 2) : Nat) = (0 : Int64) := by decide
theorem kl_1 : Int64.ofNat ((1 : Fin 2) : Nat) = (1 : Int64) := by decide
theorem gbk_o (b : Int32) : gbk b < layC.1 ∧ layC.2.1 (gbk b) = 0 ∧ gcl[(layC.2.2.2.1 (gbk b)).1]? = some (RX6, TX6, 4) := by
  unfold gbk
  split <;> exact ⟨by decide, rfl, rfl⟩
section GAUX
variable {l : Launch} {D : va_G} {cs : gCs} {ad : Nat → Nat} {Z : State → Prop} {d : Nat} {own : String} {cc : ByteArray} {nL : Nat} {ret : Option FieldType} {G : gG} {Rt : Option Value → gSt → Prop} {pc n : Nat} {lv lv2 : List (Option Value)} {st : List Value} {S : gSt}
theorem s_topi2 {v : Value} {x : Int32} (k : ∀ y : Int32, y = x → G pc lv (v :: .int y :: st) S) : G pc lv (v :: .int x :: st) S := k x rfl
theorem s_wk {L : gL} (h : gSim l D cs L ad Z d own cc nL ret G Rt) (k : G pc lv2 st S) (hl : gle lv2 lv) : G pc lv st S := s_weak h hl k
theorem s_ng {g : gFG} {f : gFF} {w : Int64} (k : ∀ g2 : gFG, g2 = g → G pc lv st (g2, f, w)) : G pc lv st (g, f, w) := k g rfl
theorem s_nf {g : gFG} {f : gFF} {w : Int64} (k : ∀ f2 : gFF, f2 = f → G pc lv st (g, f2, w)) : G pc lv st (g, f, w) := k f rfl
theorem s_aa24 (h : gSim l D cs layC ad Z d own cc nL ret G Rt) {i : Int32} (hd : decode cc pc = .ok (.aaload, 1)) (hin : vp_in i 4) (hn : pc + 1 = n) (k : G n lv (.ref (ad (31 + i.toNatClampNeg)) :: st) S) : G pc lv (.int i :: .ref (ad 24) :: st) S := s_aald h hd ⟨by decide, rfl⟩ hin hn k
theorem s_aa25 (h : gSim l D cs layC ad Z d own cc nL ret G Rt) {i : Int32} (hd : decode cc pc = .ok (.aaload, 1)) (hin : vp_in i 4) (hn : pc + 1 = n) (k : G n lv (.ref (ad (35 + i.toNatClampNeg)) :: st) S) : G pc lv (.int i :: .ref (ad 25) :: st) S := s_aald h hd ⟨by decide, rfl⟩ hin hn k
theorem s_aa26 (h : gSim l D cs layC ad Z d own cc nL ret G Rt) {i : Int32} (hd : decode cc pc = .ok (.aaload, 1)) (hin : vp_in i 4) (hn : pc + 1 = n) (k : G n lv (.ref (ad (39 + i.toNatClampNeg)) :: st) S) : G pc lv (.int i :: .ref (ad 26) :: st) S := s_aald h hd ⟨by decide, rfl⟩ hin hn k
end GAUX
theorem gofWF {l : Launch} {y : MethodName} {ws ws' : List Cond} {rm : Room} {Pc : Array Value → State → Prop} {Qc : Array Value → State → Outcome → State → Prop} {mc ms : Nat} {free : Addr → Prop} {cc : ByteArray} {maxL : Nat} {ret : Option FieldType}
    (hy : plainFor y = true) (hw : ws = Cond.code y cc maxL ret :: ws')
    (body : ∀ p e s m args below meth c s₁, BodyLoose p l y (headSpec ws rm) cc maxL ret e s m args below meth c s₁ → c.maxLocals = maxL → Pc args s →
      W p l e (headSpec ws rm).room s m args below meth c s.heap [] 0 0 (MQ below Qc args s mc ms free) (entryFrame m args maxL)) : Met l y ws rm Pc Qc mc ms free := by
  refine Jvm.Free.MetFree.of_bodySF (code := cc) (maxLocals := maxL) (ret := ret) hy ?_ ?_
  · intro args s m h hn
    obtain ⟨meth, c, h1, h2, h3, h4, h5, h6, -, -⟩ := Cond.code_spec hn (atoms_spec (ws := ws) h _ (by rw [hw]; exact List.mem_cons_self))
    exact ⟨meth, c, h1, h2, h3, h4, h5, h6⟩
  · intro p e s m args below meth c s₁ B hml hP _
    have hh0 : s₁.heap = s.heap := by rw [B.state]; rfl
    obtain ⟨t, a1, o, b1, b2, b3⟩ := body p e s m args below meth c s₁ B hml hP s₁ hh0 (Stand.of_body B)
    exact ⟨t, o, a1, b1, b2, ⟨b3.1, b3.2⟩⟩
theorem met_walkF {l : Launch} {D : va_G} {cs : gCs} {L : gL} {ad : Nat → Nat} {Z : State → Prop} {d : Nat} {y : MethodName} {cc : ByteArray} {nL : Nat} {ret : Option FieldType} {av : List Value} {S : gSt} {Q : Option Value → gSt → Prop} {lv0 : List (Option Value)}
    (hE : gInj L ad ∧ gZok (gA L ad) Z) (hy : plainFor y = true) (hn : (lg_sl av).length ≤ nL) (hlv : gkn 0 lv0 = lv_args 0 av)
    (walk : ∀ (G : gG) (Rt : Option Value → gSt → Prop), gSim l D cs L ad Z d y.cls cc nL ret G Rt → (∀ v S', Q v S' → Rt v S') → G 0 lv0 [] S) : gCT l D cs L ad Z d y cc nL ret av S Q := by
  refine gofWF (cc := cc) (maxL := nL) (ret := ret) hy rfl ?_
  intro p e s m args below meth c s₁ B hml hv
  obtain ⟨rfl, hP, hK, hZ⟩ := hv
  have hts := atoms_spec (ws := Cond.code y cc nL ret :: TT) B.pre
  have hl := lv_entry av (n := nL) hn
  rw [lg_entry_eq]
  have h := walk _ Q ⟨p, e, s, m, av.toArray, below, meth, c, B.exec, B.bytes, hml, findClass_of_methodNamed B.named, fun w hw => hts w (List.mem_cons_of_mem _ hw), B.returns, B.notSynchronized, hK, hZ, hE.1, hE.2, rfl⟩ (fun _ _ h => h)
  exact h s.heap [] _ hP va_S.rf (gok.of hl hlv)
section GACOPY
variable {l : Launch} {D : va_G} {cs : gCs} {L : gL} {ad : Nat → Nat} {Z : State → Prop} {d : Nat} {own : String} {cc : ByteArray} {nL : Nat} {ret : Option FieldType} {G : gG} {Rt : Option Value → gSt → Prop} {pc n : Nat} {lv : List (Option Value)} {st : List Value}
theorem gnatcopy : Cond.native arraycopyName ∈ TT ∧ Cond.static arraycopyName ∈ TT ∧ Cond.initialized "java/lang/System" ∈ TT := ⟨TT_in 700 (by decide +kernel) rfl, TT_in 699 (by decide +kernel) rfl, TT_in 79 (by decide +kernel) rfl⟩
theorem s_acopy (h : gSim l D cs L ad Z d own cc nL ret G Rt) {g : gFG} {f : gFF} {w : Int64} {a b idx : Nat} {sp dp k : Int32} (hd : decode cc pc = .ok (.invokestatic idx, 3)) (hdd : 2 ≤ d) (hw : Cond.methodLink own idx arraycopyName ∈ TT) (hc : a < L.1 ∧ L.2.1 a = 1 ∧ b < L.1 ∧ L.2.1 b = 1) (hp : ¬ sp < 0 ∧ ¬ dp < 0 ∧ ¬ k < 0) (hlen : sp.toNatClampNeg + k.toNatClampNeg ≤ L.2.2.1 a ∧ dp.toNatClampNeg + k.toNatClampNeg ≤ L.2.2.1 b) (hst : (st.map fun v => v.category).sum ≤ 8) (hn : pc + 3 = n) (kk : G n lv st (g, va_up f b (va_cpy (f a) (f b) sp.toNatClampNeg dp.toNatClampNeg k.toNatClampNeg), w)) : G pc lv (.int k :: .int dp :: .ref (ad b) :: .int sp :: .ref (ad a) :: st) (g, f, w) := by
  subst hn
  obtain ⟨p, e, s, m, args, below, meth, c, hx, hb, hml, ho, hts, hr, hlk, hK, hZ, hi, hz, rfl⟩ := h
  intro H locs ls hP hS hl
  obtain ⟨c1, c2, c3, c4⟩ := hc
  refine va_copyi hx hb (hml.trans hl.1.symm) ho (hts _ hw) (hts _ gnatcopy.1) (hts _ gnatcopy.2.1) (hts _ gnatcopy.2.2) hK hP (gW_D _ hi) hS a b 0 0 ((gW_at c1).trans (by rw [gc1 c2])) ((gW_at c3).trans (by rw [gc1 c4])) rfl rfl rfl hp.1 hp.2.1 hp.2.2 hlen.1 hlen.2 (fun i hi => rfl) (by show 1 ≤ d; omega) ?_ hd (fun H1 locs1 hP1 hD1 hS1 => ?_)
  · have e9 : nativeFrameWords "java/lang/System" "arraycopy" 5 + 11 ≤ 100 := by decide +kernel
    show _ ≤ 60 * d
    omega
  rw [gW_set (S' := (g, va_up f b (va_cpy (f a) (f b) sp.toNatClampNeg dp.toNatClampNeg k.toNatClampNeg), w)) (by rw [gc1 c4]; simp [va_up]) (fun j _ hj => gcf hj)] at hP1
  exact kk H1 locs1 ls hP1 hS1 hl
end GACOPY
theorem lmX5_118 : Cond.methodLink RX5 118 arraycopyName ∈ TT := TT_in 698 (by decide +kernel) rfl
