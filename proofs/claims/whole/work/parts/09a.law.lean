def R_law : String := "PieceMouldsLaw"
def lw_P (b : Addr) (xs : List Int32) (args : Array Value) (s : State) : Prop := args = #[.ref b] ∧ s.IntsAt b xs ∧ xs.length ≤ 3072 ∧ (Jvm.Cond.and given_1 narrow_1).before args s = true
def lw_Q (_ : Array Value) (s : State) (o : Outcome) (t : State) : Prop := o = .returned (some (.int 1)) ∧ Framed s o t [] 600000 7302250
def lw_Z (below : List Frame) (a : Array Value) (s : State) : State → Prop := fun t => ∃ o, t.status = .running ∧ Ended t below o ∧ lw_Q a s o t
/-- the law's own end, with 1 on the stack, nothing written that was there before, its room as the claim has it -/
theorem lw_ret {p : Program} {l : Launch} {e : Env} {s : State} {m : MethodId} {below : List Frame} {meth : Method} {c : Code} {b : Nat} (hx : p.tables.exec = Jvm.exec) (hb : c.code = code) (hr : meth.sig.returnType = ret) (hlocks : meth.locks = false) {pc : Nat} {H : Heap} {ls : Array Slot} (hdg : decode code pc = .ok (.ireturn, 1)) : W p l e room_1 s m #[Value.ref b] below meth c H [] 600000 7302250 (lw_Z below #[Value.ref b] s) (F0 m pc ls [.int 1]) := by
  intro T hT X
  obtain ⟨fs, hret, hrun, hended, hW, hframe⟩ := X.leave (v := some (.int 1)) (hlocks := hlocks) (fun h => by rw [hr] at h; cases h)
  have hmeth' : T.vm.method? m = some meth := X.method'
  refine ⟨T.setFrames fs, ?_, .returned (some (.int 1)), hrun, hended, rfl, ⟨_, rfl⟩, hW, hframe⟩
  jvm_step X.here [X.here.top, hx, hb, hdg, hmeth', hr, ret, narrow_b1]
  (try refine ⟨rfl, ?_⟩); (try refine ⟨rfl, ?_⟩)
  first | (intro acts; rw [hret _ acts rfl rfl rfl]) | rw [hret _ _ rfl rfl rfl]
  exact Steps.refl _
/-- what holds at the law's entry: the machine, the code, the tables' words (any of lw_tbl by 'hts w (by decide +kernel)'), the script of L ints xs at the cell b, what the Statement gives of the start (any of its parts by flat_of_before) -/
def lw_At (p : Program) (s : State) (m : MethodId) (meth : Method) (c : Code) (b L : Nat) (xs : Nat → Int32) : Prop :=
  p.tables.exec = Jvm.exec ∧ c.code = code ∧ meth.sig.returnType = ret ∧ c.maxLocals = 4 ∧ s.vm.findClass R_law = some m.cls ∧ (∀ w ∈ lw_tbl, w.before #[Value.ref b] s = true) ∧ va_X b L xs s s.heap ∧ b < s.heap.size ∧ meth.locks = false ∧ (Jvm.Cond.and given_1 narrow_1).before #[Value.ref b] s = true

/-! THE LAW: two worlds side by side -/
abbrev lG : Type := Nat → List (Option Value) → List Value → gSt → gSt → Prop
def lGo (p : Program) (l : Launch) (e : Env) (s : State) (m : MethodId) (b : Nat) (below : List Frame) (meth : Method) (c : Code) (D : va_G) (cs : gCs) (adC adM : Nat → Nat) (pc : Nat) (lv : List (Option Value)) (st : List Value) (S T : gSt) : Prop :=
  ∀ (H : Heap) (locs : List Loc) (ls : Array Slot), va_P D gcl (gW layC cs adC S) H → va_P D gcl (gW layM cs adM T) H → va_S (fun q => s.heap.size ≤ q) s.heap H locs → gok ls 4 lv → W p l e room_1 s m #[Value.ref b] below meth c H locs 82 5055 (lw_Z below #[Value.ref b] s) (F0 m pc ls st)
def lOk (D : va_G) (cs : gCs) (adC adM : Nat → Nat) (tX tY : Nat) (sK sV : Nat → Nat) (s : State) : Prop := va_K D gcl (gty cs) s ∧ gZc adC tX tY sK sV s ∧ gInj layC adC ∧ gInj layM adM ∧ (∀ k, k < 57 → s.heap.size ≤ adC k) ∧ (∀ k, k < 25 → s.heap.size ≤ adM k) ∧ ∀ i j, i < 57 → j < 25 → adC i ≠ adM j
def lSim (l : Launch) (D : va_G) (cs : gCs) (adC adM : Nat → Nat) (tX tY : Nat) (sK sV : Nat → Nat) (b L : Nat) (xs : Nat → Int32) (G : lG) : Prop :=
  ∃ (p : Program) (e : Env) (s : State) (m : MethodId) (below : List Frame) (meth : Method) (c : Code), lw_At p s m meth c b L xs ∧ lOk D cs adC adM tX tY sK sV s ∧ G = lGo p l e s m b below meth c D cs adC adM
theorem lZ_true {A : Nat → Prop} : gZok A (fun _ => True) := ⟨fun _ _ _ _ h => h, fun _ _ _ _ h => h⟩
section LROWS
variable {l : Launch} {D : va_G} {cs : gCs} {adC adM : Nat → Nat} {tX tY : Nat} {sK sV : Nat → Nat} {b L : Nat} {xs : Nat → Int32} {G : lG} {pc n : Nat} {lv lv2 : List (Option Value)} {st : List Value} {S T : gSt}
theorem l_iconst (h : lSim l D cs adC adM tX tY sK sV b L xs G) {z : Int} {v : Int32} (hd : decode code pc = .ok (.iconst z, 1)) (hv : Int32.ofInt z = v) (hn : pc + 1 = n) (k : G n lv (.int v :: st) S T) : G pc lv st S T := by
  subst hn
  obtain ⟨p, e, s, m, below, meth, c, ⟨hx, hb, hr, hml, hown, hts, hX, hbl, hlocks, hgv⟩, ⟨hK, hZ, hi1, hi2, hg1, hg2, hne⟩, rfl⟩ := h
  intro H locs ls hP hM hS hl
  exact lv_iconst hx hb hd hv (k H locs ls hP hM hS hl)
theorem l_bipush (h : lSim l D cs adC adM tX tY sK sV b L xs G) {z : Int} {v : Int32} (hd : decode code pc = .ok (.bipush z, 2)) (hv : (Int8.ofInt z).toInt32 = v) (hn : pc + 2 = n) (k : G n lv (.int v :: st) S T) : G pc lv st S T := by
  subst hn
  obtain ⟨p, e, s, m, below, meth, c, ⟨hx, hb, hr, hml, hown, hts, hX, hbl, hlocks, hgv⟩, ⟨hK, hZ, hi1, hi2, hg1, hg2, hne⟩, rfl⟩ := h
  intro H locs ls hP hM hS hl
  exact lv_bipush hx hb hd hv (k H locs ls hP hM hS hl)
theorem l_iload_n (h : lSim l D cs adC adM tX tY sK sV b L xs G) {j : Fin 4} {x : Int32} (hd : decode code pc = .ok (.iload_n j, 1)) (hv : lv[(j : Nat)]? = some (some (.int x))) (hn : pc + 1 = n) (k : G n lv (.int x :: st) S T) : G pc lv st S T := by
  subst hn
  obtain ⟨p, e, s, m, below, meth, c, ⟨hx, hb, hr, hml, hown, hts, hX, hbl, hlocks, hgv⟩, ⟨hK, hZ, hi1, hi2, hg1, hg2, hne⟩, rfl⟩ := h
  intro H locs ls hP hM hS hl
  exact lv_iload_n hx hb hd rfl (hl.2.2 _ _ hv) (k H locs ls hP hM hS hl)
theorem l_aload_n (h : lSim l D cs adC adM tX tY sK sV b L xs G) {j : Fin 4} {x : Nat} (hd : decode code pc = .ok (.aload_n j, 1)) (hv : lv[(j : Nat)]? = some (some (.ref x))) (hn : pc + 1 = n) (k : G n lv (.ref x :: st) S T) : G pc lv st S T := by
  subst hn
  obtain ⟨p, e, s, m, below, meth, c, ⟨hx, hb, hr, hml, hown, hts, hX, hbl, hlocks, hgv⟩, ⟨hK, hZ, hi1, hi2, hg1, hg2, hne⟩, rfl⟩ := h
  intro H locs ls hP hM hS hl
  exact lv_aload_n hx hb hd rfl (hl.2.2 _ _ hv) (k H locs ls hP hM hS hl)
theorem l_iadd (h : lSim l D cs adC adM tX tY sK sV b L xs G) {x y : Int32} (hd : decode code pc = .ok (.iadd, 1))  (hn : pc + 1 = n) (k : G n lv (.int (x + y) :: st) S T) : G pc lv (.int y :: .int x :: st) S T := by
  subst hn
  obtain ⟨p, e, s, m, below, meth, c, ⟨hx, hb, hr, hml, hown, hts, hX, hbl, hlocks, hgv⟩, ⟨hK, hZ, hi1, hi2, hg1, hg2, hne⟩, rfl⟩ := h
  intro H locs ls hP hM hS hl
  exact lv_iadd hx hb hd (k H locs ls hP hM hS hl)
theorem l_isub (h : lSim l D cs adC adM tX tY sK sV b L xs G) {x y : Int32} (hd : decode code pc = .ok (.isub, 1))  (hn : pc + 1 = n) (k : G n lv (.int (x - y) :: st) S T) : G pc lv (.int y :: .int x :: st) S T := by
  subst hn
  obtain ⟨p, e, s, m, below, meth, c, ⟨hx, hb, hr, hml, hown, hts, hX, hbl, hlocks, hgv⟩, ⟨hK, hZ, hi1, hi2, hg1, hg2, hne⟩, rfl⟩ := h
  intro H locs ls hP hM hS hl
  exact lv_isub hx hb hd (k H locs ls hP hM hS hl)
theorem l_iand (h : lSim l D cs adC adM tX tY sK sV b L xs G) {x y : Int32} (hd : decode code pc = .ok (.iand, 1))  (hn : pc + 1 = n) (k : G n lv (.int (x &&& y) :: st) S T) : G pc lv (.int y :: .int x :: st) S T := by
  subst hn
  obtain ⟨p, e, s, m, below, meth, c, ⟨hx, hb, hr, hml, hown, hts, hX, hbl, hlocks, hgv⟩, ⟨hK, hZ, hi1, hi2, hg1, hg2, hne⟩, rfl⟩ := h
  intro H locs ls hP hM hS hl
  exact lv_iand hx hb hd (k H locs ls hP hM hS hl)
theorem l_sald (h : lSim l D cs adC adM tX tY sK sV b L xs G) {x : Int32} {j : Nat} (hd : decode code pc = .ok (.iaload, 1)) (hj : x = nI j ∧ j < L ∧ L ≤ 3072) (hn : pc + 1 = n) (k : G n lv (.int (xs j) :: st) S T) : G pc lv (.int x :: .ref b :: st) S T := by
  subst hn
  obtain ⟨p, e, s, m, below, meth, c, ⟨hx, hb, hr, hml, hown, hts, hX, hbl, hlocks, hgv⟩, ⟨hK, hZ, hi1, hi2, hg1, hg2, hne⟩, rfl⟩ := h
  intro H locs ls hP hM hS hl
  exact (by obtain ⟨rfl, hj1, hj2⟩ := hj; exact va_sld hx hb hX hbl (fun q => absurd q (Nat.not_le.mpr hbl)) hS (vp_in_nI hj1 (by omega)) hd (by rw [nI_clamp (by omega)]; exact k H locs ls hP hM hS hl))
theorem l_slen (h : lSim l D cs adC adM tX tY sK sV b L xs G)  (hd : decode code pc = .ok (.arraylength, 1))  (hn : pc + 1 = n) (k : G n lv (.int (nI L) :: st) S T) : G pc lv (.ref b :: st) S T := by
  subst hn
  obtain ⟨p, e, s, m, below, meth, c, ⟨hx, hb, hr, hml, hown, hts, hX, hbl, hlocks, hgv⟩, ⟨hK, hZ, hi1, hi2, hg1, hg2, hne⟩, rfl⟩ := h
  intro H locs ls hP hM hS hl
  exact va_slen hx hb hX hbl (fun q => absurd q (Nat.not_le.mpr hbl)) hS hd (k H locs ls hP hM hS hl)
theorem l_goto (h : lSim l D cs adC adM tX tY sK sV b L xs G) {off : Int} {tgt : Nat} (hd : decode code pc = .ok (.goto off, 3)) (ht : (pc : Int) + off = (tgt : Int)) (k : G tgt lv st S T) : G pc lv st S T := by
  obtain ⟨p, e, s, m, below, meth, c, ⟨hx, hb, hr, hml, hown, hts, hX, hbl, hlocks, hgv⟩, ⟨hK, hZ, hi1, hi2, hg1, hg2, hne⟩, rfl⟩ := h
  intro H locs ls hP hM hS hl
  exact lv_goto hx hb hd ht (k H locs ls hP hM hS hl)
theorem l_icmp_eq (h : lSim l D cs adC adM tX tY sK sV b L xs G) {x y : Int32} {off : Int} {tgt : Nat} (hd : decode code pc = .ok (.if_icmp .eq off, 3)) (ht : (pc : Int) + off = (tgt : Int)) (hn : pc + 3 = n) (kt : x = y → G tgt lv st S T) (kf : ¬ x = y → G n lv st S T) : G pc lv (.int y :: .int x :: st) S T := by
  subst hn
  obtain ⟨p, e, s, m, below, meth, c, ⟨hx, hb, hr, hml, hown, hts, hX, hbl, hlocks, hgv⟩, ⟨hK, hZ, hi1, hi2, hg1, hg2, hne⟩, rfl⟩ := h
  intro H locs ls hP hM hS hl
  exact lv_icmp_eq hx hb hd ht (fun q => kt q H locs ls hP hM hS hl) (fun q => kf q H locs ls hP hM hS hl)
theorem l_icmp_gt (h : lSim l D cs adC adM tX tY sK sV b L xs G) {x y : Int32} {off : Int} {tgt : Nat} (hd : decode code pc = .ok (.if_icmp .gt off, 3)) (ht : (pc : Int) + off = (tgt : Int)) (hn : pc + 3 = n) (kt : y < x → G tgt lv st S T) (kf : ¬ y < x → G n lv st S T) : G pc lv (.int y :: .int x :: st) S T := by
  subst hn
  obtain ⟨p, e, s, m, below, meth, c, ⟨hx, hb, hr, hml, hown, hts, hX, hbl, hlocks, hgv⟩, ⟨hK, hZ, hi1, hi2, hg1, hg2, hne⟩, rfl⟩ := h
  intro H locs ls hP hM hS hl
  exact lv_icmp_gt hx hb hd ht (fun q => kt q H locs ls hP hM hS hl) (fun q => kf q H locs ls hP hM hS hl)
theorem l_iinc (h : lSim l D cs adC adM tX tY sK sV b L xs G) {x : Int32} (hd : decode code pc = .ok (.iinc 3 6, 3)) (hj : lv[3]? = some (some (.int x))) (hc : (gpv lv 3 && Nat.ble 4 4) = true) (hv : lv.set 3 (some (.int (x + 6))) = lv2) (hn : pc + 3 = n) (k : G n lv2 st S T) : G pc lv st S T := by
  subst hn
  subst hv
  obtain ⟨p, e, s, m, below, meth, c, ⟨hx, hb, hr, hml, hown, hts, hX, hbl, hlocks, hgv⟩, ⟨hK, hZ, hi1, hi2, hg1, hg2, hne⟩, rfl⟩ := h
  intro H locs ls hP hM hS hl
  obtain ⟨hc1, hc2⟩ := Bool.and_eq_true_iff.mp hc
  obtain ⟨q, hq⟩ := List.getElem?_of_mem (gkn_in (i := 0) hj)
  rw [Nat.zero_add] at hq
  exact lv_iinc (k := q) hx hb hd hl.has hq rfl (by decide) rfl (fun ls2 h2 => k H locs ls2 hP hM hS (gok.put1 hc1 h2))
theorem l_istore_n (h : lSim l D cs adC adM tX tY sK sV b L xs G) {j : Fin 4} {x : Int32} (hd : decode code pc = .ok (.istore_n j, 1)) (hc : (gpv lv (j : Nat) && Nat.ble ((j : Nat) + 1) 4) = true) (hv : lv.set (j : Nat) (some (.int x)) = lv2) (hn : pc + 1 = n) (k : G n lv2 st S T) : G pc lv (.int x :: st) S T := by
  subst hn
  subst hv
  obtain ⟨p, e, s, m, below, meth, c, ⟨hx, hb, hr, hml, hown, hts, hX, hbl, hlocks, hgv⟩, ⟨hK, hZ, hi1, hi2, hg1, hg2, hne⟩, rfl⟩ := h
  intro H locs ls hP hM hS hl
  obtain ⟨hc1, hc2⟩ := Bool.and_eq_true_iff.mp hc
  exact lv_istore_n hx hb hd rfl hl.has (Nat.le_of_ble_eq_true hc2) rfl (fun ls2 h2 => k H locs ls2 hP hM hS (gok.put1 hc1 h2))
theorem l_tabIn (h : lSim l D cs adC adM tX tY sK sV b L xs G) {dflt lo hi off : Int} {offs : Array Int} {len tgt : Nat} {x v : Int32} (hd : decode code pc = .ok (.tableswitch dflt lo hi offs, len)) (hx0 : x = v) (hc : ¬ v.toInt < lo ∧ ¬ hi < v.toInt ∧ offs[(v.toInt - lo).toNat]? = some off ∧ (pc : Int) + off = (tgt : Int)) (k : G tgt lv st S T) : G pc lv (.int x :: st) S T := by
  subst hx0
  obtain ⟨p, e, s, m, below, meth, c, ⟨hx, hb, hr, hml, hown, hts, hX, hbl, hlocks, hgv⟩, ⟨hK, hZ, hi1, hi2, hg1, hg2, hne⟩, rfl⟩ := h
  intro H locs ls hP hM hS hl
  exact lv_tableIn hx hb hd hc.1 hc.2.1 hc.2.2.1 hc.2.2.2 (k H locs ls hP hM hS hl)
theorem l_tabOut (h : lSim l D cs adC adM tX tY sK sV b L xs G) {dflt lo hi : Int} {offs : Array Int} {len tgt : Nat} {x : Int32} (hd : decode code pc = .ok (.tableswitch dflt lo hi offs, len)) (hc : x.toInt < lo ∨ hi < x.toInt) (ht : (pc : Int) + dflt = (tgt : Int)) (k : G tgt lv st S T) : G pc lv (.int x :: st) S T := by
  obtain ⟨p, e, s, m, below, meth, c, ⟨hx, hb, hr, hml, hown, hts, hX, hbl, hlocks, hgv⟩, ⟨hK, hZ, hi1, hi2, hg1, hg2, hne⟩, rfl⟩ := h
  intro H locs ls hP hM hS hl
  exact lv_tableOut hx hb hd hc ht (k H locs ls hP hM hS hl)
theorem l_ret (h : lSim l D cs adC adM tX tY sK sV b L xs G) (hd : decode code pc = .ok (.ireturn, 1)) : G pc lv [.int 1] S T := by
  obtain ⟨p, e, s, m, below, meth, c, ⟨hx, hb, hr, hml, hown, hts, hX, hbl, hlocks, hgv⟩, ⟨hK, hZ, hi1, hi2, hg1, hg2, hne⟩, rfl⟩ := h
  intro H locs ls hP hM hS hl
  refine va_forget (fun q hq => hS.2.2 q hq) ?_
  refine W.widen (k := 600000) (n := 7302250) (by decide) (by decide) ?_
  exact lw_ret hx hb hr hlocks hd
theorem l_weak (h : lSim l D cs adC adM tX tY sK sV b L xs G) (k : G pc lv2 st S T) (hle : gle lv2 lv) : G pc lv st S T := by
  obtain ⟨p, e, s, m, below, meth, c, ⟨hx, hb, hr, hml, hown, hts, hX, hbl, hlocks, hgv⟩, ⟨hK, hZ, hi1, hi2, hg1, hg2, hne⟩, rfl⟩ := h
  intro H locs ls hP hM hS hl
  exact k H locs ls hP hM hS (hl.le hle)
/-- a call on one of the two worlds (L0 its layout, ad its addresses), the other stays -/
theorem lRun {p : Program} {e : Env} {s : State} {m : MethodId} {args : Array Value} {below : List Frame} {meth : Method} {c : Code} {H : Heap} {locs : List Loc} {Qf : State → Prop} {ls : Array Slot} {rest st0 : List Value} {a : Array Value} {Q : Option Value → gSt → Prop} {L0 : gL} {ad : Nat → Nat} {nc ns : Nat}
    (hr : va_Run p l e room_1 s m args below meth c H locs nc ns 0 0 (F0 m pc ls st0) rest (gPost D cs L0 ad Q a) (gA L0 ad)) (hS : va_S (fun q => s.heap.size ≤ q) s.heap H locs) (hA : ∀ q, gA L0 ad q → s.heap.size ≤ q)
    (kk : ∀ (v : Option Value) (S' : gSt) (H1 : Heap) (locs1 : List Loc), Q v S' → va_P D gcl (gW L0 cs ad S') H1 → (∀ q, q < H.size → ¬ gA L0 ad q → H1[q]? = H[q]?) → va_S (fun q => s.heap.size ≤ q) s.heap H1 locs1 → W p l e room_1 s m args below meth c H1 locs1 nc ns Qf (F0 m (pc + 3) ls (v.toList ++ rest))) : W p l e room_1 s m args below meth c H locs nc ns Qf (F0 m pc ls st0) := by
  intro T hT X
  obtain ⟨v, st₀, t, T', Lc, h0, X', hL, e1, e2, ⟨⟨v', S', hv, hq, hp⟩, hz, hk⟩, st⟩ := hr T hT X
  cases hv
  rw [h0] at hz hk
  have hk' : ∀ q, q < H.size → ¬ gA L0 ad q → T'.heap[q]? = H[q]? := fun q h1 h2 => by rw [e1]; exact hk q h1 h2
  obtain ⟨t2, a1, b1⟩ := kk v S' T'.heap (locs ++ Lc) hq (by rw [e1]; exact hp) hk'
    ⟨Nat.le_trans hS.1 (by rw [e1]; exact hz), fun q h1 h2 => by rw [hk' q (Nat.lt_of_lt_of_le h1 hS.1) (fun z => h2 (hA q z))]; exact hS.2.1 q h1 h2, fun q hq => by
      rcases List.mem_append.mp hq with h | h
      · exact hS.2.2 q h
      · exact hA _ (hL q h)⟩ T' rfl X'
  exact ⟨t2, st t2 a1, b1⟩
theorem lAC (hg1 : ∀ k, k < 57 → n ≤ adC k) : ∀ q, gA layC adC q → n ≤ q := fun q h => by
  obtain ⟨k, hk, rfl⟩ := h
  exact hg1 k hk
theorem lAM (hg1 : ∀ k, k < 25 → n ≤ adM k) : ∀ q, gA layM adM q → n ≤ q := fun q h => by
  obtain ⟨k, hk, rfl⟩ := h
  exact hg1 k hk
theorem TTin_tbl {args : Array Value} {s : State} (hts : ∀ w ∈ lw_tbl, w.before args s = true) : ∀ w ∈ TT, w.before args s = true := fun w hw => hts w (TT_tbl hw)
theorem l_callC (h : lSim l D cs adC adM tX tY sK sV b L xs G) {y : MethodName} {bt : ByteArray} {mL d2 idx na : Nat} {rt : Option FieldType} {As st0 : List Value} {Q : Option Value → gSt → Prop} (hm : gCT l D cs layC adC (gZc adC tX tY sK sV) d2 y bt mL rt (.ref (adC 0) :: As) S Q) (hce : gCe y bt mL na rt ∧ Cond.instanceMethod y ∈ TT ∧ Cond.selects y.cls y y ∈ TT) (hyc : y.cls = RX11) (hw : Cond.methodLink R_law idx y ∈ TT) (hst : st0 = As.reverse ++ .ref (adC 0) :: st) (hk : As.length = na ∧ (st.map fun v => v.category).sum ≤ 8 ∧ d2 ≤ 100) (hd : decode code pc = .ok (.invokevirtual idx, 3)) (hn : pc + 3 = n) (k : ∀ (v : Option Value) (S' : gSt), Q v S' → G n lv (v.toList ++ st) S' T) : G pc lv st0 S T := by
  subst hn
  obtain ⟨p, e, s, m, below, meth, c, ⟨hx, hb, hr, hml, hown, hts, hX, hbl, hlocks, hgv⟩, ⟨hK, hZ, hi1, hi2, hg1, hg2, hne⟩, rfl⟩ := h
  intro H locs ls hP hM hS hl
  obtain ⟨⟨c1, c2, c3, c4⟩, c5, c6⟩ := hce
  have ht := TTin_tbl hts
  have cb : CallB room_1 s #[Value.ref b] R_law idx y bt mL rt (Cond.code y bt mL rt :: TT) (gRm d2) 0 0 na := callB_of na ht (gTT c1) rfl rfl rfl (ht _ c2) (ht _ hw) c4 ⟨by show d2 + 1 ≤ 2048; omega, by show 8 + (mL + 11) + 60 * d2 ≤ 84000; omega⟩
  have hAs := lAC hg1
  have hz := gZc_ok adC tX tY sK sV
  refine lRun (va_runV (As := As) (rest := st) (C := y.cls) ⟨hx, hb, hml, hown, ht⟩ hm ⟨cb, ht _ c5, ht _ c6⟩ ⟨gBlind hz, by rw [hyc]; exact va_recv (ci := 11) (q := (RX11, TX11, 14)) hK hP rfl (gW_at (k := 0) (by decide)), fun U hU hW => ⟨rfl, by rw [hU]; exact hP, va_K.moved hW.alike hK, hz.2 s U hW (fun q h1 h2 => by rw [hU]; exact hS.2.1 q h1 (Nat.not_le.mpr h1)) hZ⟩⟩ rfl hk.1 hl.1 hst (by show 2 * 0 + _ ≤ 8; omega) hd ⟨by decide, by decide⟩) hS hAs (fun v S' H1 locs1 hq hp1 hk1 hs1 => k v S' hq H1 locs1 ls hp1 (hM.kept (fun j x hx9 => ?_)) hs1 hl)
  obtain ⟨j1, rfl⟩ := gW_of hx9
  exact hk1 _ (hM j _ hx9).lt (fun ⟨i, hi, q⟩ => hne i j hi j1 q.symm)
theorem l_callM (h : lSim l D cs adC adM tX tY sK sV b L xs G) {y : MethodName} {bt : ByteArray} {mL d2 idx na : Nat} {rt : Option FieldType} {As st0 : List Value} {Q : Option Value → gSt → Prop} (hm : gCT l D cs layM adM (fun _ => True) d2 y bt mL rt (.ref (adM 0) :: As) T Q) (hce : gCe y bt mL na rt ∧ Cond.instanceMethod y ∈ TT ∧ Cond.selects y.cls y y ∈ TT) (hyc : y.cls = RX12) (hw : Cond.methodLink R_law idx y ∈ TT) (hst : st0 = As.reverse ++ .ref (adM 0) :: st) (hk : As.length = na ∧ (st.map fun v => v.category).sum ≤ 8 ∧ d2 ≤ 100) (hd : decode code pc = .ok (.invokevirtual idx, 3)) (hn : pc + 3 = n) (k : ∀ (v : Option Value) (T' : gSt), Q v T' → G n lv (v.toList ++ st) S T') : G pc lv st0 S T := by
  subst hn
  obtain ⟨p, e, s, m, below, meth, c, ⟨hx, hb, hr, hml, hown, hts, hX, hbl, hlocks, hgv⟩, ⟨hK, hZ, hi1, hi2, hg1, hg2, hne⟩, rfl⟩ := h
  intro H locs ls hP hM hS hl
  obtain ⟨⟨c1, c2, c3, c4⟩, c5, c6⟩ := hce
  have ht := TTin_tbl hts
  have cb : CallB room_1 s #[Value.ref b] R_law idx y bt mL rt (Cond.code y bt mL rt :: TT) (gRm d2) 0 0 na := callB_of na ht (gTT c1) rfl rfl rfl (ht _ c2) (ht _ hw) c4 ⟨by show d2 + 1 ≤ 2048; omega, by show 8 + (mL + 11) + 60 * d2 ≤ 84000; omega⟩
  have hAs := lAM hg2
  have hz : gZok (gA layM adM) (fun _ => True) := lZ_true
  refine lRun (va_runV (As := As) (rest := st) (C := y.cls) ⟨hx, hb, hml, hown, ht⟩ hm ⟨cb, ht _ c5, ht _ c6⟩ ⟨gBlind hz, by rw [hyc]; exact va_recv (ci := 12) (q := (RX12, TX12, 44)) hK hM rfl (gW_at (k := 0) (by decide)), fun U hU hW => ⟨rfl, by rw [hU]; exact hM, va_K.moved hW.alike hK, trivial⟩⟩ rfl hk.1 hl.1 hst (by show 2 * 0 + _ ≤ 8; omega) hd ⟨by decide, by decide⟩) hS hAs (fun v S' H1 locs1 hq hp1 hk1 hs1 => k v S' hq H1 locs1 ls (hP.kept (fun j x hx9 => ?_)) hp1 hs1 hl)
  obtain ⟨j1, rfl⟩ := gW_of hx9
  exact hk1 _ (hP j _ hx9).lt (fun ⟨i, hi, q⟩ => hne j i j1 hi q)
end LROWS
