/-! steps under a condition -/
section ZR
variable {d M pc : Nat} {ls ls' : zLs} {st : List Value} {hp : zHP} {K : Option Value → zHP → Prop} {mi : zMI}
theorem Q_idivG {x y : Int32} (hm : zmt[M]? = some mi) (hx : M < 241 ∨ (pc ≠ 1473 ∧ pc ≠ 348)) (hd : decode mi.2.1 pc = .ok (.idiv, 1)) : zWP d M pc ls (.int y :: .int x :: st) hp K = (¬ y = 0 ∧ zWP d M (pc + 1) ls (.int (x / y) :: st) hp K) := by
  refine zE_guard (g := ¬ y = 0) (r := (pc + 1, ls, .int (x / y) :: st, hp)) hm hx hd rfl (fun h => ?_) (fun h => ?_) rfl rfl
  · simp only [zact, h, if_false]
  · have h9 : y = 0 := Classical.byContradiction h
    simp only [zact, h9, if_true]
theorem Q_iremG {x y : Int32} (hm : zmt[M]? = some mi) (hx : M < 241 ∨ (pc ≠ 1473 ∧ pc ≠ 348)) (hd : decode mi.2.1 pc = .ok (.irem, 1)) : zWP d M pc ls (.int y :: .int x :: st) hp K = (¬ y = 0 ∧ zWP d M (pc + 1) ls (.int (x - x / y * y) :: st) hp K) := by
  refine zE_guard (g := ¬ y = 0) (r := (pc + 1, ls, .int (x - x / y * y) :: st, hp)) hm hx hd rfl (fun h => ?_) (fun h => ?_) rfl rfl
  · simp only [zact, h, if_false]
  · have h9 : y = 0 := Classical.byContradiction h
    simp only [zact, h9, if_true]
theorem Q_ldivG {x y : Int64} (hm : zmt[M]? = some mi) (hx : M < 241 ∨ (pc ≠ 1473 ∧ pc ≠ 348)) (hd : decode mi.2.1 pc = .ok (.ldiv, 1)) : zWP d M pc ls (.long y :: .long x :: st) hp K = (¬ y = 0 ∧ zWP d M (pc + 1) ls (.long (x / y) :: st) hp K) := by
  refine zE_guard (g := ¬ y = 0) (r := (pc + 1, ls, .long (x / y) :: st, hp)) hm hx hd rfl (fun h => ?_) (fun h => ?_) rfl rfl
  · simp only [zact, h, if_false]
  · have h9 : y = 0 := Classical.byContradiction h
    simp only [zact, h9, if_true]
theorem Q_lremG {x y : Int64} (hm : zmt[M]? = some mi) (hx : M < 241 ∨ (pc ≠ 1473 ∧ pc ≠ 348)) (hd : decode mi.2.1 pc = .ok (.lrem, 1)) : zWP d M pc ls (.long y :: .long x :: st) hp K = (¬ y = 0 ∧ zWP d M (pc + 1) ls (.long (x - x / y * y) :: st) hp K) := by
  refine zE_guard (g := ¬ y = 0) (r := (pc + 1, ls, .long (x - x / y * y) :: st, hp)) hm hx hd rfl (fun h => ?_) (fun h => ?_) rfl rfl
  · simp only [zact, h, if_false]
  · have h9 : y = 0 := Classical.byContradiction h
    simp only [zact, h9, if_true]
theorem Q_putZG {o k ci j : Nat} {x : Int32} (hm : zmt[M]? = some mi) (hx : M < 241 ∨ (pc ≠ 1473 ∧ pc ≠ 348)) (hd : decode mi.2.1 pc = .ok (.putfield k, 3)) (hf : zfl mi.2.2.2.2 k = some (ci, j)) (hs : zfs ci j = 1) (hfin : (zT ci j).2.2.2 = false) (hk : zkd o = ci) : zWP d M pc ls (.int x :: .ref o :: st) hp K = ((x = 0 ∨ x = 1) ∧ zWP d M (pc + 3) ls st (zu hp.1 o j x, hp.2.1, hp.2.2) K) := by
  refine zE_guard (g := (x = 0 ∨ x = 1)) (r := (pc + 3, ls, st, (zu hp.1 o j x, hp.2.1, hp.2.2))) hm hx hd rfl (fun h => ?_) (fun h => ?_) rfl rfl
  · simp only [zact, hf, zput, hk, hs, hfin, h, and_self, if_true]
  · simp only [zact, hf, zput, hk, hs, hfin, h, and_self, if_true, if_false]
theorem Q_alenV {a : Nat} (hm : zmt[M]? = some mi) (hx : M < 241 ∨ (pc ≠ 1473 ∧ pc ≠ 348)) (hd : decode mi.2.1 pc = .ok (.arraylength, 1)) (hc : ¬ mi.2.2.2.2 = 11) : zWP d M pc ls (.ref a :: st) hp K = ((100 ≤ zkd a ∧ zkd a < 105) ∧ zWP d M (pc + 1) ls (.int (Int32.ofNat (zln a)) :: st) hp K) := by
  refine zE_guard (g := (100 ≤ zkd a ∧ zkd a < 105)) (r := (pc + 1, ls, .int (Int32.ofNat (zln a)) :: st, hp)) hm hx hd rfl (fun h => ?_) (fun h => ?_) rfl rfl
  · simp only [zact, h, and_self, if_true]
  · simp only [zact, if_neg h, hc, and_false, if_false]
theorem Q_zret {x : Int32} (hm : zmt[M]? = some mi) (hx : M < 241 ∨ (pc ≠ 1473 ∧ pc ≠ 348)) (hd : decode mi.2.1 pc = .ok (.ireturn, 1)) (hr : mi.2.2.2.1 = some .boolean) : zWP d M pc ls [.int x] hp K = ((x = 0 ∨ x = 1) ∧ K (some (.int x)) hp) := by
  by_cases h : x = 0 ∨ x = 1
  · rw [Q_zreturn hm hx hd hr h]
    simp only [h, true_and]
  · apply propext
    constructor
    · rintro ⟨n, h2⟩
      cases n with
      | zero => exact h2.elim
      | succ n =>
        rw [zWn] at h2
        rw [hm] at h2; dsimp only at h2; rw [(hx.elim zxn (fun q => zxp q.1 q.2))] at h2; dsimp only at h2; rw [hd] at h2; dsimp only at h2
        have e1 : zlen .ireturn 1 = true := rfl
        have e2 : zrt mi.2.2.2.1 .ireturn [.int x] = none := by rw [hr]; simp only [zrt, h, if_false]
        have e3 : zact mi.2.2.2.2 pc .ireturn ls [.int x] hp = none := rfl
        have e4 : zcx mi.2.2.2.2 .ireturn [.int x] = none := rfl
        rw [if_pos e1, e3] at h2; dsimp only at h2; rw [e2] at h2; dsimp only at h2; rw [e4] at h2
        exact h2.elim
    · intro h2
      exact absurd h2.1 h
theorem zE_gbi {g : Prop} {i : Instr} {len : Nat} {q : Nat × List Value × List Value} {w : Option Value × zHP} (hm : zmt[M]? = some mi) (hx : M < 241 ∨ (pc ≠ 1473 ∧ pc ≠ 348)) (hd : decode mi.2.1 pc = .ok (i, len)) (hl : zlen i len = true) (ha : zact mi.2.2.2.2 pc i ls st hp = none) (hr : zrt mi.2.2.2.1 i st = none) (hq : zcx mi.2.2.2.2 i st = some q) (hw : g → zbi q.1 q.2.1 hp = some w) (hn : ¬ g → zbi q.1 q.2.1 hp = none) (hy : zmt[q.1]? = none) : zWP (d + 5) M pc ls st hp K = (g ∧ zWP (d + 5) M (pc + 3) ls (w.1.toList ++ q.2.2) w.2 K) := by
  by_cases h : g
  · rw [zE_bi hm (hx.elim zxn (fun q => zxp q.1 q.2)) hd hl ha hr hq (hw h) (by omega)]
    simp only [h, true_and]
  · apply propext
    constructor
    · rintro ⟨n, h2⟩
      cases n with
      | zero => exact h2.elim
      | succ n =>
        rw [zWn] at h2
        rw [hm] at h2; dsimp only at h2; rw [(hx.elim zxn (fun q => zxp q.1 q.2))] at h2; dsimp only at h2; rw [hd] at h2; dsimp only at h2; rw [if_pos hl, ha] at h2; dsimp only at h2; rw [hr] at h2; dsimp only at h2; rw [hq] at h2; dsimp only at h2; rw [hn h] at h2; dsimp only at h2; rw [hy] at h2
        exact h2.elim
    · intro h2
      exact absurd h2.1 h
theorem Q_charAt {k : Nat} {i : Int32} {rest : List Value} (hm : zmt[M]? = some mi) (hx : M < 241 ∨ (pc ≠ 1473 ∧ pc ≠ 348)) (hd : decode mi.2.1 pc = .ok (.invokevirtual k, 3)) (hz : zca mi.2.2.2.2 k = some (1001, 1, 2)) (hcat : zcat rest ≤ 8) :
    zWP (d + 5) M pc ls (.int i :: .ref 910 :: rest) hp K = (vp_in i zwds.length ∧ zWP (d + 5) M (pc + 3) ls (.int (zwds.getD i.toNatClampNeg 0) :: rest) hp K) := by
  have hq : zcx mi.2.2.2.2 (.invokevirtual k) (.int i :: .ref 910 :: rest) = some (1001, [.ref 910, .int i], rest) := by
    simp only [zcx, hz, List.drop_succ_cons, List.drop_zero]
    rw [if_pos ⟨by simp, hcat, trivial, by decide⟩]
    rfl
  exact zE_gbi (g := vp_in i zwds.length) (q := (1001, [.ref 910, .int i], rest)) (w := (some (.int (zwds.getD i.toNatClampNeg 0)), hp)) hm hx hd rfl rfl rfl hq
    (fun h => by show (if zin i zwds.length = true then some (some (Value.int (zwds.getD i.toNatClampNeg 0)), hp) else none) = _; rw [if_pos (zin_of h)])
    (fun h => by show (if zin i zwds.length = true then some (some (Value.int (zwds.getD i.toNatClampNeg 0)), hp) else none) = _; rw [if_neg (fun z => h (zin_spec z))]) (show zmt[1001]? = none from rfl)
/-- cells with n places copied from the row a, place i on, to the row b, place j on -/
def zcp (f : Nat → Nat → Int32) (a b : Nat) (i j n : Int32) : Nat → Nat → Int32 := va_up f b (va_cpy (f a) (f b) i.toNatClampNeg j.toNatClampNeg n.toNatClampNeg)
theorem Q_acopy {k a b na nb : Nat} {i j n : Int32} {rest : List Value} (hm : zmt[M]? = some mi) (hx : M < 241 ∨ (pc ≠ 1473 ∧ pc ≠ 348)) (hd : decode mi.2.1 pc = .ok (.invokestatic k, 3)) (hz : zca mi.2.2.2.2 k = some (1002, 5, 2)) (ka : zkd a = 100) (kb : zkd b = 100) (la : zln a = na) (lb : zln b = nb) (hcat : zcat rest ≤ 8) :
    zWP (d + 5) M pc ls (.int n :: .int j :: .ref b :: .int i :: .ref a :: rest) hp K = ((¬ i < 0 ∧ ¬ j < 0 ∧ ¬ n < 0 ∧ i.toNatClampNeg + n.toNatClampNeg ≤ na ∧ j.toNatClampNeg + n.toNatClampNeg ≤ nb) ∧ zWP (d + 5) M (pc + 3) ls rest (zcp hp.1 a b i j n, hp.2.1, hp.2.2) K) := by
  have hq : zcx mi.2.2.2.2 (.invokestatic k) (.int n :: .int j :: .ref b :: .int i :: .ref a :: rest) = some (1002, [.ref a, .int i, .ref b, .int j, .int n], rest) := by
    simp only [zcx, hz, List.drop_succ_cons, List.drop_zero]
    rw [if_pos ⟨by simp, hcat, by decide⟩]
    rfl
  subst la
  subst lb
  exact zE_gbi (g := (¬ i < 0 ∧ ¬ j < 0 ∧ ¬ n < 0 ∧ i.toNatClampNeg + n.toNatClampNeg ≤ zln a ∧ j.toNatClampNeg + n.toNatClampNeg ≤ zln b)) (q := (1002, [.ref a, .int i, .ref b, .int j, .int n], rest)) (w := (none, (va_up hp.1 b (va_cpy (hp.1 a) (hp.1 b) i.toNatClampNeg j.toNatClampNeg n.toNatClampNeg), hp.2.1, hp.2.2))) hm hx hd rfl rfl rfl hq
    (fun h => by show zbi 1002 [.ref a, .int i, .ref b, .int j, .int n] hp = _; unfold zbi; rw [if_neg (by decide), if_neg (by decide), if_pos rfl]; (try dsimp only); rw [if_pos ⟨ka, kb, h⟩])
    (fun h => by show zbi 1002 [.ref a, .int i, .ref b, .int j, .int n] hp = _; unfold zbi; rw [if_neg (by decide), if_neg (by decide), if_pos rfl]; (try dsimp only); rw [if_neg (fun z => h z.2.2)]) (show zmt[1002]? = none from rfl)
end ZR
