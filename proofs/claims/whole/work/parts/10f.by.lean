/-! of, by -/
theorem q_shopOfM {N T : Nat} {v y : Int32} {g : gFG} {f : gFF} {w : Int64} {Q : Int32 → gFG → gFF → Int64 → Prop} (hN : 1000 ≤ N) (hT : T ≤ 150) (hg : g 40 = nI T) (h : Q (shp (f 22) (f 23) (f 24) v y T) g f w) : wX12_shopOf N v y g f w Q := by
  have key := dn (W := T) (P := fun x => ∀ n, T - x < n → wX12_shopOf_l5 N v y Q n (shp (f 22) (f 23) (f 24) v y x) (nI x) g f w) ?_ ?_ 0 (by omega) N (by omega)
  · exact key
  · intro n hn
    obtain ⟨n, rfl⟩ : ∃ k, n = k + 1 := ⟨n - 1, by omega⟩
    unfold wX12_shopOf_l5
    rw [hg]
    exact ⟨fun c => h, fun c => absurd (nI_le (Nat.le_refl T) (by omega)) c⟩
  · intro x hx ih n hn
    obtain ⟨n, rfl⟩ : ∃ k, n = k + 1 := ⟨n - 1, by omega⟩
    unfold wX12_shopOf_l5 wX12_shopOf_j46 wX12_shopOf_j47
    rw [hg]
    refine ⟨fun c => absurd c (nI_ge hx (by omega)), fun c => ?_⟩
    have hin : vp_in (nI x) 150 := vp_in_nI (by omega) (by decide)
    rw [nI_clamp (by omega)]
    have st := ih n (by omega)
    rw [shp] at st
    simp only [hin, true_and, forall_eq, br1, br2, lt_I, nI_1]
    by_cases h1 : f 22 x = v
    · rw [if_pos h1]
      by_cases h2 : y.toInt < (f 24 x).toInt
      · rw [if_pos h2]
        rw [if_neg (fun q => by omega)] at st
        exact st
      · rw [if_neg h2]
        rw [if_pos ⟨h1, by omega⟩] at st
        exact st
    · rw [if_neg h1]
      rw [if_neg (fun q => h1 q.1)] at st
      exact st
theorem ok_of {GC : gGC} (hG : GCok GC) {N : Nat} (hN : 1000 ≤ N) : ls_of N (InvP GC) := by
  intro n a b gS fS gT fT wT hn hI
  have hI' := inv_same hG hI 0
  obtain ⟨-, -, -, -, ⟨V, T, hV, hT, e1, e2, e3, e4, hm, ht⟩, -⟩ := hI
  have v1 : (gS 21).toInt = V := by rw [e1]; exact nI_I (by omega)
  have v2 : ((va_up gT 0 0) 38).toInt = V := by show (gT 38).toInt = V; rw [e2]; exact nI_I (by omega)
  simp only [wX11_of, wX12_of, forall_eq, q_vhas, q_isVessel, q_isWithin, q_in, withinB, l_I, z0L, z_3000, show (3000 : Int64).toInt = 3000 from rfl, br1, br2, bi_0, vhB, v1, v2]
  by_cases h1 : 0 ≤ a.toInt ∧ a.toInt < V
  · have h1a : 0 ≤ a.toInt ∧ a.toInt < V ∧ a.toInt < 40 := by omega
    have h1b : 0 ≤ a.toInt ∧ a.toInt ≤ (V : Int) - 1 := by omega
    by_cases h2 : 0 ≤ b.toInt ∧ b.toInt ≤ 3000
    · simp only [h1a, h1b, h2, decide_true, if_false, and_self, Bool.true_eq_false]
      refine q_shopOf hN hT e3 ?_
      refine q_shopOfM hN hT e4 ?_
      exact ⟨(shp_cong (fun i hi => (ht i hi).1)).symm, hI'⟩
    · simp [h1a, h1b, h2, hI']
  · have h1a : ¬ (0 ≤ a.toInt ∧ a.toInt < V ∧ a.toInt < 40) := by omega
    have h1b : ¬ (0 ≤ a.toInt ∧ a.toInt ≤ (V : Int) - 1) := by omega
    simp [h1a, h1b, hI']
/-- the first x places filled -/
def fz (m : Nat → Int32) (v : Int32) (x : Nat) : Nat → Int32 := fun i => if i < x then v else m i
theorem fz_0 (m : Nat → Int32) (v : Int32) : fz m v 0 = m := by funext i; simp [fz]
theorem fz_s (m : Nat → Int32) (v : Int32) (x : Nat) : upd (fz m v x) x v = fz m v (x + 1) := by
  funext i
  by_cases h : i = x
  · subst h; rw [upd_at]; simp [fz]
  · rw [upd_ne _ _ h]
    unfold fz
    by_cases h2 : i < x
    · rw [if_pos h2, if_pos (by omega)]
    · rw [if_neg h2, if_neg (by omega)]
theorem q_fill {N a len : Nat} {v : Int32} {g : gFG} {f : gFF} {Q : gFG → gFF → Prop} (hN : 1000 ≤ N) (ha : a < 57) (hk : kdC a = 1) (hl : lnC a = len) (hlen : len ≤ 400) (h : Q g (va_up f a (fz (f a) v len))) : wJ7_fill_53178 N a v g f Q := by
  unfold wJ7_fill_53178
  refine ⟨⟨ha, hk⟩, ?_⟩
  rintro _ rfl
  rw [hl]
  have key := dn (W := len) (P := fun x => ∀ n, len - x < n → wJ7_fill_53178_l5 N a v (nI len) Q n (nI x) g (va_up f a (fz (f a) v x))) ?_ ?_ 0 (by omega) N (by omega)
  · rw [fz_0, up_id] at key; exact key
  · intro n hn
    obtain ⟨n, rfl⟩ : ∃ k, n = k + 1 := ⟨n - 1, by omega⟩
    unfold wJ7_fill_53178_l5
    exact ⟨fun c => h, fun c => absurd (nI_le (Nat.le_refl len) (by omega)) c⟩
  · intro x hx ih n hn
    obtain ⟨n, rfl⟩ : ∃ k, n = k + 1 := ⟨n - 1, by omega⟩
    unfold wJ7_fill_53178_l5
    refine ⟨fun c => absurd c (nI_ge hx (by omega)), fun c => ⟨⟨ha, hk, by show vp_in (nI x) (lnC a); rw [hl]; exact vp_in_nI hx (by omega)⟩, ?_⟩⟩
    rintro _ rfl _ rfl
    rw [nI_clamp (by omega), up_s, up_up, fz_s, nI_1]
    exact ih n (by omega)
/-- sums and counts by workshop over the first vessels -/
def lsm (sh lk : Nat → Int32) (vv w : Nat) : Nat → Int32
  | 0 => 0
  | o + 1 => if o ≠ vv ∧ sh o = nI w then lsm sh lk vv w o + lk o else lsm sh lk vv w o
def cnm (sh : Nat → Int32) (vv w : Nat) : Nat → Int32
  | 0 => 0
  | o + 1 => if o ≠ vv ∧ sh o = nI w then cnm sh vv w o + 1 else cnm sh vv w o
def low8 (F : Nat → Int32) (m : Nat → Int32) : Nat → Int32 := fun i => if i < 8 then F i else m i
theorem low8_upd (F G m : Nat → Int32) (w : Nat) (x : Int32) (hw : w < 8) (hx : G w = x) (ho : ∀ i, i < 8 → i ≠ w → G i = F i) : upd (low8 F m) w x = low8 G m := by
  funext i
  by_cases h : i = w
  · subst h; rw [upd_at]; simp [low8, hw, hx]
  · rw [upd_ne _ _ h]
    unfold low8
    by_cases h8 : i < 8
    · rw [if_pos h8, if_pos h8, ho i h8 h]
    · rw [if_neg h8, if_neg h8]
theorem low8_cong {F G m : Nat → Int32} (h : ∀ i, i < 8 → F i = G i) : low8 F m = low8 G m := by
  funext i
  unfold low8
  by_cases hi : i < 8
  · rw [if_pos hi, if_pos hi, h i hi]
  · rw [if_neg hi, if_neg hi]
theorem low8_at {F m : Nat → Int32} {i : Nat} (h : i < 8) : low8 F m i = F i := if_pos h
theorem up_4 {α : Type} (f : Nat → α) {p q : Nat} (hpq : p ≠ q) (a b a' b' : α) : va_up (va_up (va_up (va_up f p a) q b) p a') q b' = va_up (va_up f p a') q b' := by
  funext j
  simp only [va_up]
  by_cases h1 : j = q
  · simp [h1]
  · by_cases h2 : j = p
    · subst h2
      simp [h1]
    · simp [h1, h2]
theorem q_likeness {N V a b : Nat} {g : gFG} {f : gFF} {Q : Int32 → gFG → gFF → Prop} (hN : 100 ≤ N) (hV : V ≤ 40) (hg : g 21 = nI V) (ha : a < V) (hb : b < V) (h : Q (lks (f 51) a b 8) g f) : wX10_likeness N (nI a) (nI b) g f Q := by
  have v1 : (g 21).toInt = V := by rw [hg]; exact nI_I (by omega)
  have a1 : (nI a).toInt = a := nI_I (by omega)
  have b1 : (nI b).toInt = b := nI_I (by omega)
  have h1 : (0 : Int) ≤ a ∧ (a : Int) < V ∧ (a : Int) < 40 := by omega
  have h2 : (0 : Int) ≤ b ∧ (b : Int) < V ∧ (b : Int) < 40 := by omega
  simp only [wX10_likeness, q_vhas, br1, br2, bi_0, vhB, v1, a1, b1, h1, h2, decide_true, and_self, Bool.true_eq_false, if_false]
  exact q_lik hN (by omega) (by omega) h
theorem q_cmp {N V vv : Nat} {y : Int32} {g : gFG} {f : gFF} {Q : gFG → gFF → Prop} {T : Nat} (hN : 1000 ≤ N) (hV : V ≤ 40) (hvv : vv < V) (hg : g 21 = nI V) (hT : T ≤ 150) (hg2 : g 22 = nI T) (hsh : ∀ o, o < V → -1 ≤ (shp (f 52) (f 53) (f 54) (nI o) y T).toInt ∧ (shp (f 52) (f 53) (f 54) (nI o) y T).toInt ≤ 7)
    (h : Q g (va_up (va_up f 55 (low8 (fun w => lsm (fun o => shp (f 52) (f 53) (f 54) (nI o) y T) (fun o => lks (f 51) vv o 8) vv w V) (f 55))) 56 (low8 (fun w => cnm (fun o => shp (f 52) (f 53) (f 54) (nI o) y T) vv w V) (f 56)))) : wX10_compareWithOthers N (nI vv) y g f Q := by
  generalize hs : (fun o : Nat => shp (f 52) (f 53) (f 54) (nI o) y T) = sh at h
  have hse : ∀ o, shp (f 52) (f 53) (f 54) (nI o) y T = sh o := fun o => by rw [← hs]
  unfold wX10_compareWithOthers
  refine q_fill hN (by decide) rfl (show lnC 55 = 8 from rfl) (by decide) ?_
  refine q_fill hN (by decide) rfl (show lnC 56 = 8 from rfl) (by decide) ?_
  have key := dn (W := V) (P := fun x => ∀ n, V - x < n → wX10_compareWithOthers_l18 N (nI vv) y Q n (nI x) g (va_up (va_up f 55 (low8 (fun w => lsm sh (fun o => lks (f 51) vv o 8) vv w x) (f 55))) 56 (low8 (fun w => cnm sh vv w x) (f 56)))) ?_ ?_ 0 (by omega) N (by omega)
  · exact key
  · intro n hn
    obtain ⟨n, rfl⟩ : ∃ k, n = k + 1 := ⟨n - 1, by omega⟩
    unfold wX10_compareWithOthers_l18
    rw [hg]
    exact ⟨fun c => h, fun c => absurd (nI_le (Nat.le_refl V) (by omega)) c⟩
  · intro x hx ih n hn
    obtain ⟨n, rfl⟩ : ∃ k, n = k + 1 := ⟨n - 1, by omega⟩
    have st := ih n (by omega)
    unfold wX10_compareWithOthers_l18
    rw [hg]
    refine ⟨fun c => absurd c (nI_ge hx (by omega)), fun c => ⟨fun c2 => ?_, fun c2 => ?_⟩⟩
    · have hxv : x ≠ vv := fun q => c2 (by rw [q])
      refine q_shopOf (T := T) hN hT hg2 ?_
      show wX10_compareWithOthers_j41 N _ Q (nI vv) y (nI x) (shp (f 52) (f 53) (f 54) (nI x) y T) g _
      rw [hse x]
      have hr := hsh x hx
      rw [hse x] at hr
      unfold wX10_compareWithOthers_j41 wX10_compareWithOthers_j82
      simp only [forall_eq, nI_1]
      refine ⟨fun c3 => ?_, fun c3 => ⟨fun c4 => ?_, fun c4 => ?_⟩⟩
      · have hne : ∀ w, w < 8 → ¬ (x ≠ vv ∧ sh x = nI w) := fun w hw q => by
          rw [q.2] at c3
          exact nI_pos (by omega) c3
        rw [low8_cong (F := fun w => lsm sh (fun o => lks (f 51) vv o 8) vv w (x + 1)) (G := fun w => lsm sh (fun o => lks (f 51) vv o 8) vv w x) (fun w hw => by show lsm _ _ _ _ _ = _; rw [lsm, if_neg (hne w hw)]), low8_cong (F := fun w => cnm sh vv w (x + 1)) (G := fun w => cnm sh vv w x) (fun w hw => by show cnm _ _ _ _ = _; rw [cnm, if_neg (hne w hw)])] at st
        exact st
      · rw [le_I, z_8] at c4
        omega
      · rw [lt_I, z_0] at c3
        rw [le_I, z_8] at c4
        obtain ⟨w0, hw0, ew⟩ : ∃ w0 : Nat, w0 < 8 ∧ sh x = nI w0 := ⟨(sh x).toInt.toNat, by omega, by rw [eq_I, nI_I (by omega)]; omega⟩
        rw [ew]
        have hin : vp_in (nI w0) 8 := vp_in_nI hw0 (by decide)
        refine ⟨hin, ?_⟩
        refine q_likeness (V := V) (by omega) hV hg hvv hx ?_
        rw [nI_clamp (by omega)]
        refine ⟨hin, hin, hin, ?_⟩
        rw [up_n _ _ (show (56 : Nat) ≠ 55 by decide), up_s, up_n _ _ (show (55 : Nat) ≠ 56 by decide), up_s, up_4 f (show (55 : Nat) ≠ 56 by decide)]
        have hoth : ∀ i, i < 8 → i ≠ w0 → ¬ (x ≠ vv ∧ sh x = nI i) := fun i h8 hi q => hi ((nI_eq (by omega) (by omega)).mp (ew.symm.trans q.2)).symm
        rw [low8_at hw0, low8_at hw0]
        rw [low8_upd (fun w => lsm sh (fun o => lks (f 51) vv o 8) vv w x) (fun w => lsm sh (fun o => lks (f 51) vv o 8) vv w (x + 1)) (f 55) w0 _ hw0 (by show lsm _ _ _ _ _ = _; rw [lsm, if_pos ⟨hxv, ew⟩]; rfl) (fun i h8 hi => by show lsm _ _ _ _ _ = _; rw [lsm, if_neg (hoth i h8 hi)])]
        rw [low8_upd (fun w => cnm sh vv w x) (fun w => cnm sh vv w (x + 1)) (f 56) w0 _ hw0 (by show cnm _ _ _ _ = _; rw [cnm, if_pos ⟨hxv, ew⟩]) (fun i h8 hi => by show cnm _ _ _ _ = _; rw [cnm, if_neg (hoth i h8 hi)])]
        exact st
    · have hxv : x = vv := (nI_eq (by omega) (by omega)).mp c2
      unfold wX10_compareWithOthers_j41 wX10_compareWithOthers_j82
      simp only [forall_eq, nI_1]
      refine ⟨fun _ => ?_, fun c3 => absurd (show (-1 : Int32) < 0 by decide) c3⟩
      have e1 : ∀ w, lsm sh (fun o => lks (f 51) vv o 8) vv w (x + 1) = lsm sh (fun o => lks (f 51) vv o 8) vv w x := fun w => by rw [lsm, if_neg (fun q => q.1 hxv)]
      have e2 : ∀ w, cnm sh vv w (x + 1) = cnm sh vv w x := fun w => by rw [cnm, if_neg (fun q => q.1 hxv)]
      simp only [e1, e2] at st
      exact st
