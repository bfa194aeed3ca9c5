theorem nZ_aoa : nZok (fun U => va_AOA .int U) := ⟨fun U U' hv h => arrayOver_alikeB (by rw [hv]; exact Vm.Alike.refl _) h, fun U U' hW h => arrayOver_alikeB hW.alike h⟩
def nrow (r : List Nat) : Nat → Option Nat := fun i => if i < 4 then some (r.getD i 0) else none
section NMNA
variable {l : Launch} {D : va_G} {cs : gCs} {d mc ms : Nat} {cc : ByteArray} {nL h0 ci : Nat} {G : nG} {Rt : va_W → Prop} {pc n nc ns : Nat} {lv lv2 : List (Option Value)} {st fs : List Value} {tl : va_W}
theorem n_mna (h : nSim l D cs (fun U => va_AOA .int U) d mc ms RX5 cc nL h0 ci G Rt) {v : Int32} {K : Nat} (hd : decode cc pc = .ok (.multianewarray 11 2, 4)) (hv : ¬ v < 0 ∧ v.toNatClampNeg = K ∧ K ≤ 1000) (hroom : nc + 5 ≤ mc ∧ ns + (4 + 4 * K) ≤ ms) (hn : pc + 4 = n) (k : ∀ q r0 r1 r2 r3 : Nat, G n lv (.ref q :: st) fs (tl ++ [(q, .inl (cs.2.2, 4, .inr (.inr (.inr (.inr (nrow [r0, r1, r2, r3])))))), (r0, .inl (cs.1, K, .inl (fun _ => 0))), (r1, .inl (cs.1, K, .inl (fun _ => 0))), (r2, .inl (cs.1, K, .inl (fun _ => 0))), (r3, .inl (cs.1, K, .inl (fun _ => 0)))]) (nc + 5) (ns + (4 + 4 * K))) : G pc lv (.int v :: .int 4 :: st) fs tl nc ns := by
  subst hn
  obtain ⟨p, e, s, m, args, below, meth, c, A, Qf, hx, hb, hml, ho, hts, hr, hlk, hin, hK, hZ, hz, hA, hR, rfl⟩ := h
  intro H locs ls hP hD hS hl
  obtain ⟨v1, v2, v3⟩ := hv
  refine va_mna (X := (h0, .inr (ci, fs)) :: tl) (L := []) (f := fun _ => .inr (0, [])) (z := (K, .inl (fun _ => 0))) (N' := 4) (K' := K) (ty := .int) (cy := cs.1) hx hb ho (hts _ (TT_in 223 (by decide +kernel) rfl)) hZ (hts _ (TT_in 111 (by decide +kernel) rfl)) (hK.2 0 _ rfl).2 hK (by simpa [va_pl] using hP) (by simpa [va_pl] using hD) hS hA (by decide) v1 (by decide) v2 (by decide) (by show K * 4 ≤ 536870912; omega) (by omega) rfl rfl (by show nc + (1 + 4) ≤ mc; omega) (by show ns + (4 + 4 * K) ≤ ms; omega) ?_ hd (fun q r cA H1 hinj hnin hK1 hP1 hD1 hS1 => ?_)
  · intro c9
    show ({ cls := c9, slots := Array.replicate K (.int 0), vm := .none } : Cell) = arrV c9 K (fun _ => .int 0)
    rw [arrV_new]
  · have e9 := nca (j := 2) hK rfl (fun C q => by cases q) hK1
    subst e9
    have hl4 : (List.range 4).map r = [r 0, r 1, r 2, r 3] := rfl
    have hrows : va_pl ([] ++ (List.range 4).map r) (vr_up (fun _ => (.inr (0, []) : va_E)) ((List.range 4).map r) (.inl (cs.1, K, .inl (fun _ => 0)))) = [(r 0, .inl (cs.1, K, .inl (fun _ => 0))), (r 1, .inl (cs.1, K, .inl (fun _ => 0))), (r 2, .inl (cs.1, K, .inl (fun _ => 0))), (r 3, .inl (cs.1, K, .inl (fun _ => 0)))] := by
      rw [hl4]
      simp [va_pl, vr_up]
    have hfun : (fun i => if i < 4 then some (r i) else none) = nrow [r 0, r 1, r 2, r 3] := by
      funext i
      unfold nrow
      match i with
      | 0 => rfl
      | 1 => rfl
      | 2 => rfl
      | 3 => rfl
      | i + 4 => rw [if_neg (by omega), if_neg (by omega)]
    rw [hrows, hfun] at hP1 hD1
    refine W.widen (k := nc + 5) (n := ns + (4 + 4 * K)) (by omega) (by omega) ?_
    exact k q (r 0) (r 1) (r 2) (r 3) H1 locs ls (by simpa using hP1) (by simpa using hD1) hS1 hl
end NMNA
