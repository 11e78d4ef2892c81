/-! quiet -/
section ZP
variable {d pl dr : Nat} {cp cw rp : Option Nat} {ia : Nat → Nat → Int32} {la : Nat → Nat → Int64} {K : Option Value → zHP → Prop}
theorem zgcd_r (x y : Nat) : Nat.gcd y (x % y) = Nat.gcd x y := by
  rw [Nat.gcd_comm x y, Nat.gcd_rec y x, Nat.gcd_comm]
theorem S_gcd {x y : Nat} (hx : x ≤ 100) (hy : y ≤ 100) : zWM d 114 [.int (nI x), .int (nI y)] (ia, la, zRA pl dr cp cw rp) K = K (some (.int (nI (Nat.gcd x y)))) (ia, la, zRA pl dr cp cw rp) := by
  rw [e114, b114_0]
  have lp : ∀ (n v u c : Nat) a5, v ≤ n → u ≤ 100 → c + v ≤ 100 → zWP d 114 7 [some (.int (nI x)), some (.int (nI y)), some (.int (nI u)), some (.int (nI v)), some (.int (nI c)), a5] [] (ia, la, zRA pl dr cp cw rp) K = K (some (.int (nI (Nat.gcd u v)))) (ia, la, zRA pl dr cp cw rp) := by
    intro n
    induction n with
    | zero =>
      intro v u c a5 hv hu hc
      have e : v = 0 := by omega
      subst e
      rw [b114_7, if_pos (show nI 0 ≤ 0 by decide), Nat.gcd_zero_right]
      split <;> rfl
    | succ n ih =>
      intro v u c a5 hv hu hc
      by_cases e : v = 0
      · subst e
        rw [b114_7, if_pos (show nI 0 ≤ 0 by decide), Nat.gcd_zero_right]
        split <;> rfl
      · have hm : u % v < v := Nat.mod_lt _ (by omega)
        rw [b114_7, if_neg (show ¬ (100 : Int32) ≤ nI c from nI_nle1 (a := 100) (by omega) (by omega)), if_neg (qnle_0 (by omega) (by omega)), zdrop (qne_0 e (by omega)), pk_rem (by omega) (by omega) (by omega), ns, ih (u % v) v (c + 1) _ (by omega) (by omega) (by omega), zgcd_r]
  exact lp 100 y x 0 none hy hx (by omega)
theorem S_gcdM {x y : Nat} (hx : x < 2 ^ 60) (hy : y < 2 ^ 60) : zWM d 222 [.long (lN x), .long (lN y)] (ia, la, zRA pl dr cp cw rp) K = K (some (.long (lN (Nat.gcd x y)))) (ia, la, zRA pl dr cp cw rp) := by
  rw [e222, b222_0]
  have lp : ∀ (n v u : Nat) a8, v ≤ n → u < 2 ^ 60 → v < 2 ^ 60 → zWP d 222 6 [some (.long (lN x)), none, some (.long (lN y)), none, some (.long (lN u)), none, some (.long (lN v)), none, a8, none] [] (ia, la, zRA pl dr cp cw rp) K = K (some (.long (lN (Nat.gcd u v)))) (ia, la, zRA pl dr cp cw rp) := by
    intro n
    induction n with
    | zero =>
      intro v u a8 hv hu hv2
      have e : v = 0 := by omega
      subst e
      rw [b222_6]
      simp only [lg_cmp_eq]
      rw [if_pos (show lN 0 = 0 from rfl), Nat.gcd_zero_right]
    | succ n ih =>
      intro v u a8 hv hu hv2
      rw [b222_6]
      simp only [lg_cmp_eq]
      by_cases e : v = 0
      · subst e
        rw [if_pos (show lN 0 = 0 from rfl), Nat.gcd_zero_right]
      · have hm : u % v < v := Nat.mod_lt _ (by omega)
        have hne : ¬ lN v = 0 := fun q => e ((pk_lEQ (b := 0) (by omega) (by omega)).mp q)
        rw [if_neg hne, zdrop hne, pk_lRem (by omega) (by omega) (by omega), ih (u % v) v _ (by omega) (by omega) (by omega), zgcd_r]
  exact lp y y x none (Nat.le_refl _) hx hy
end ZP
theorem zquiet : ∀ u, u < 101 → ∀ n, n < 7 → u ^ n / Nat.gcd (u ^ n) (100 ^ n) = (u / Nat.gcd u 100) ^ n ∧ 100 ^ n / Nat.gcd (u ^ n) (100 ^ n) = (100 / Nat.gcd u 100) ^ n ∧ 0 < Nat.gcd u 100 ∧ 0 < Nat.gcd (u ^ n) (100 ^ n) ∧ Nat.gcd (u ^ n) (100 ^ n) ≤ 100 ^ 6 ∧ u ^ n ≤ 100 ^ 6 ∧ 100 ^ n ≤ 100 ^ 6 ∧ Nat.gcd u 100 ≤ 100 := by decide +kernel
theorem T_quiet {d pl dr : Nat} {cp cw rp : Option Nat} {ia : Nat → Nat → Int32} {la : Nat → Nat → Int64} {Kc : Option Value → zHP → Prop} {Km : Option Value → Option Value → zHP → Prop} {x1 x2 : Int32} (hI : zInv pl dr ia la) (hc : ∀ v hp, zWM (d + 400) 223 [.ref 127, .int x1, .int x2] hp (Km v) → Kc v hp) (hm : zEndK ia Km) : zWM (d + 400) 113 [.ref 0, .int x1, .int x2] (ia, la, zRA pl dr cp cw rp) Kc := by
  have fin := zfin hI hm
  obtain ⟨i1, i2, i3, i4, i5, i6, i7, p, N, L, T, D, W, r, hC, hM, hDe, hNo⟩ := hI
  have hN6 : N ≤ 6 := hC.2.1.2.1
  have hT12 : T ≤ 12 := hC.2.1.2.2.2.2.2.1
  have hR := hC.2.2.1
  obtain ⟨a, ha, ea⟩ := hC.2.1.2.2.2.2.2.2.2.2.2.2.1
  have fin2 : ∀ v v2 : Option Value, v2 = v → Km v v2 (zu ia 127 0 0, la, zRA pl dr cp cw rp) := fun v v2 e => fin v v2 _ _ _ _ _ (zFr_0 zFr_r) e
  have e100 : (100 : Int32) - ia (pl + 28) 1 = nI (100 - a) := by rw [hC.1 28 (by omega), ea, show (100 : Int32) = nI 100 from rfl, pk_sub ha]
  rw [e113, b113_0 i1, e100]
  by_cases c1 : x1 < 0
  · rw [if_pos c1]
    refine hc _ _ ?_
    rw [e223, b223_0, if_pos c1]
    exact fin2 _ _ rfl
  rw [if_neg c1]
  by_cases c2 : 6 < x1
  · rw [if_pos c2]
    refine hc _ _ ?_
    rw [e223, b223_0, if_neg c1, if_pos c2]
    exact fin2 _ _ rfl
  rw [if_neg c2]
  by_cases c3 : x2 < 0
  · rw [if_pos c3]
    refine hc _ _ ?_
    rw [e223, b223_0, if_neg c1, if_neg c2, if_pos c3]
    exact fin2 _ _ rfl
  rw [if_neg c3]
  by_cases c4 : x2 ≤ 1
  case neg =>
    rw [if_neg c4]
    refine hc _ _ ?_
    rw [e223, b223_0, if_neg c1, if_neg c2, if_neg c3, if_neg c4]
    exact fin2 _ _ rfl
  rw [if_pos c4]
  obtain ⟨n, hn, rfl⟩ := zinx (n := 6) c1 6 (by decide) (Int32.not_lt.mp c2)
  generalize hu : 100 - a = u
  have hu100 : u ≤ 100 := by omega
  obtain ⟨z1, z2, z3, z4, z5, z6, z7, z8⟩ := zquiet u (by omega) n (by omega)
  have loopC : ∀ (q : Nat) (s0 : Int32), q ≤ 100 → zWP (d + 400) 113 74 [some (.ref 0), some (.int (nI n)), some (.int x2), some (.int (nI u)), some (.int (nI q)), some (.int s0), some (.long 1), none, some (.int 0)] [] (ia, la, zRA pl dr cp cw rp) Kc = Kc (some (.long (lN (q ^ n)))) (ia, la, zRA pl dr cp cw rp) := by
    intro q s0 hq
    refine Eq.trans (zlpE (fun i => zWP (d + 400) 113 74 [some (.ref 0), some (.int (nI n)), some (.int x2), some (.int (nI u)), some (.int (nI q)), some (.int s0), some (.long (lN (q ^ i))), none, some (.int (nI i))] [] (ia, la, zRA pl dr cp cw rp) Kc) n ?_) ?_
    · intro i hi
      show zWP (d + 400) 113 74 [some (.ref 0), some (.int (nI n)), some (.int x2), some (.int (nI u)), some (.int (nI q)), some (.int s0), some (.long (lN (q ^ i))), none, some (.int (nI i))] [] (ia, la, zRA pl dr cp cw rp) Kc = _
      rw [b113_74, if_neg (nI_nle1 hi (by omega)), nI_l (by omega), lN_mul, ns, ← Nat.pow_succ]
    · show zWP (d + 400) 113 74 [some (.ref 0), some (.int (nI n)), some (.int x2), some (.int (nI u)), some (.int (nI q)), some (.int s0), some (.long (lN (q ^ n))), none, some (.int (nI n))] [] (ia, la, zRA pl dr cp cw rp) Kc = _
      rw [b113_74, if_pos (nI_le1 (by omega) (by omega))]
  have g54 : ∀ q : Nat, q ≤ 100 → zWM (d + 399) 114 [.int (nI u), .int 100] (ia, la, zRA pl dr cp cw rp) (zK (d + 400) 113 54 [some (.ref 0), some (.int (nI n)), some (.int x2), some (.int (nI u)), some (.int (nI q)), none, none, none, none] [] Kc) = Kc (some (.long (lN ((q / Nat.gcd u 100) ^ n)))) (ia, la, zRA pl dr cp cw rp) := by
    intro q hq
    refine Eq.trans (S_gcd (y := 100) hu100 (by omega)) ?_
    rw [kS, b113_54, if_neg (qnle_0 z3 (by omega)), zdrop (qne_0 (by omega) (by omega)), pk_div (by omega) z3 (by omega), loopC (q / Nat.gcd u 100) _ (by have := Nat.div_le_self q (Nat.gcd u 100); omega)]
  have model : ∀ K : Option Value → zHP → Prop, zWM (d + 400) 223 [.ref 127, .int (nI n), .int x2] (ia, la, zRA pl dr cp cw rp) K = K (some (.long (lN (if x2 = 0 then (u / Nat.gcd u 100) ^ n else (100 / Nat.gcd u 100) ^ n)))) (zu ia 127 0 0, la, zRA pl dr cp cw rp) := by
    intro K
    have eu : (100 : Int64) - (zu ia 127 0 0 129 4).toInt64 = lN u := by
      rw [zu_o (by decide), hR.2.2.2.2.1, ea, nI_l (by omega), show (100 : Int64) = lN 100 from rfl, lN_sub ha, hu]
    rw [e223, b223_0, if_neg c1, if_neg c2, if_neg c3, if_pos c4]
    have lp := zlpE (fun i => zWP (d + 400) 223 36 [some (.ref 127), some (.int (nI n)), some (.int x2), some (.long (lN (u ^ i))), none, some (.long (lN (100 ^ i))), none, some (.int (nI i)), none] [] (zu ia 127 0 0, la, zRA pl dr cp cw rp) K) n (fun i hi => by
      show zWP (d + 400) 223 36 [some (.ref 127), some (.int (nI n)), some (.int x2), some (.long (lN (u ^ i))), none, some (.long (lN (100 ^ i))), none, some (.int (nI i)), none] [] (zu ia 127 0 0, la, zRA pl dr cp cw rp) K = _
      rw [b223_36, if_neg (nI_nle1 hi (by omega)), eu, lN_mul, show (100 : Int64) = lN 100 from rfl, lN_mul, ns, ← Nat.pow_succ, ← Nat.pow_succ])
    refine Eq.trans lp ?_
    show zWP (d + 400) 223 36 [some (.ref 127), some (.int (nI n)), some (.int x2), some (.long (lN (u ^ n))), none, some (.long (lN (100 ^ n))), none, some (.int (nI n)), none] [] (zu ia 127 0 0, la, zRA pl dr cp cw rp) K = _
    have big : (100 : Nat) ^ 6 < 2 ^ 60 := by decide
    have hne : ¬ lN (Nat.gcd (u ^ n) (100 ^ n)) = 0 := fun q => by have := (pk_lEQ (b := 0) (by omega) (by omega)).mp q; omega
    rw [b223_36, if_pos (nI_le1 (by omega) (by omega)), S_gcdM (by omega) (by omega), kS, b223_76, zdrop hne, zdrop hne, pk_lDiv (by omega) z4 (by omega), pk_lDiv (by omega) z4 (by omega), z1, z2]
    by_cases q : x2 = 0
    · rw [if_neg (fun z => z q), if_pos q]
    · rw [if_pos q, if_neg q]
  by_cases q : x2 = 0
  · rw [if_neg (fun z => z q), g54 u hu100]
    refine hc _ _ ?_
    rw [model, if_pos q]
    exact fin2 _ _ rfl
  · rw [if_pos q]
    refine Eq.mpr (g54 100 (by omega)) ?_
    refine hc _ _ ?_
    rw [model, if_neg q]
    exact fin2 _ _ rfl
