/-! the reference's sums -/
abbrev zlb (x : Int64) : Prop := -1000000000000 ≤ x.toInt ∧ x.toInt ≤ 1000000000000
theorem zlb_ne {x : Int64} (h : zlb x) : ¬ x = zER := by
  intro e
  subst e
  have : zER.toInt = -9223372036854775808 := by decide
  unfold zlb at h
  omega
theorem zlb_01 {c : Prop} [Decidable c] : zlb (if c then 0 else 1) := by
  split <;> (unfold zlb; decide)
theorem zlb_10 {c : Prop} [Decidable c] : zlb (if c then 1 else 0) := by
  split <;> (unfold zlb; decide)
theorem zlb_i (x : Int32) : zlb x.toInt64 := by
  unfold zlb
  have h1 := Int32.le_toInt x
  have h2 := Int32.toInt_lt x
  rw [Int32.toInt_toInt64]
  omega
theorem zlb_gt (x : Int64) : (1000000000000 < x) ↔ 1000000000000 < x.toInt := by rw [Int64.lt_iff_toInt_lt]; rfl
theorem zlb_lt (x : Int64) : (x < -1000000000000) ↔ x.toInt < -1000000000000 := by rw [Int64.lt_iff_toInt_lt]; rfl
theorem zlb_ge (x : Int64) : (-1000000000000 ≤ x) ↔ -1000000000000 ≤ x.toInt := by rw [Int64.le_iff_toInt_le]; rfl
theorem zl_neg {x : Int64} (h : zlb x) : (-x).toInt = -x.toInt := by
  unfold zlb at h
  rw [Int64.toInt_neg]
  rw [Int.bmod_eq_of_le] <;> omega
theorem zl_abs {x : Int64} (h : zlb x) : (if 0 ≤ x then x else -x).toInt = x.toInt.natAbs := by
  split
  next c =>
    rw [Int64.le_iff_toInt_le] at c
    have : (0 : Int64).toInt = 0 := rfl
    omega
  next c =>
    rw [Int64.le_iff_toInt_le] at c
    have : (0 : Int64).toInt = 0 := rfl
    rw [zl_neg h]
    omega
theorem zl_abs2 (x : Int64) : (if 0 < x then x else -x) = (if 0 ≤ x then x else -x) := by
  by_cases h : 0 < x
  · rw [if_pos h, if_pos (Int64.le_of_lt h)]
  · rw [if_neg h]
    by_cases h2 : 0 ≤ x
    · rw [if_pos h2]
      have h3 : x = 0 := by
        rw [Int64.lt_iff_toInt_lt] at h
        rw [Int64.le_iff_toInt_le] at h2
        apply Int64.toInt_inj.mp
        have : (0 : Int64).toInt = 0 := rfl
        omega
      subst h3
      rfl
    · rw [if_neg h2]
theorem zl_mul {x y : Int64} (hx : zlb x) (hy : zlb y) (h0 : ¬ (if 0 ≤ x then x else -x) = 0) (h : (if 0 ≤ y then y else -y) ≤ 1000000000000 / (if 0 ≤ x then x else -x)) : zlb (x * y) := by
  have hX := zl_abs hx
  have hY := zl_abs hy
  generalize (if 0 ≤ x then x else -x) = X at *
  generalize (if 0 ≤ y then y else -y) = Y at *
  have hX0 : X.toInt ≠ 0 := fun e => h0 (Int64.toInt_inj.mp e)
  rw [Int64.le_iff_toInt_le, lg_ldiv_nonneg (by decide) (by omega), hX, hY] at h
  have e12 : (1000000000000 : Int64).toInt = 1000000000000 := by decide
  rw [e12] at h
  have hm : (y.toInt.natAbs : Int) * (x.toInt.natAbs : Int) ≤ 1000000000000 := (Int.le_ediv_iff_mul_le (by omega)).mp h
  have hab : ((x.toInt * y.toInt).natAbs : Int) ≤ 1000000000000 := by
    rw [Int.natAbs_mul, Int.natCast_mul, Int.mul_comm]
    exact hm
  unfold zlb
  rw [Int64.toInt_mul, Int.bmod_eq_of_le] <;> omega
theorem zl_div {x y : Int64} (hx : zlb x) (h0 : ¬ y = 0) : zlb (x / y) := by
  have hy0 : y.toInt ≠ 0 := fun e => h0 (Int64.toInt_inj.mp e)
  have hq : ((x.toInt.tdiv y.toInt).natAbs : Int) ≤ 1000000000000 := by
    have := Int.natAbs_tdiv_le_natAbs x.toInt y.toInt
    unfold zlb at hx
    omega
  unfold zlb
  rw [Int64.toInt_div, Int.bmod_eq_of_le] <;> omega
theorem zwth_b (v : Int64) : zwth v = zER ∨ zlb (zwth v) := by
  unfold zwth
  by_cases h : 1000000000000 < v
  · rw [if_pos h]; exact Or.inl rfl
  · rw [if_neg h]
    by_cases h2 : -1000000000000 ≤ v
    · rw [if_pos h2]
      rw [zlb_gt] at h
      rw [zlb_ge] at h2
      exact Or.inr ⟨h2, by omega⟩
    · rw [if_neg h2]; exact Or.inl rfl
theorem zprd_b {a b : Int64} (ha : zlb a) (hb : zlb b) : zprd a b = zER ∨ zlb (zprd a b) := by
  unfold zprd
  by_cases h : (if 0 ≤ a then a else -a) = 0
  · rw [if_pos h]
    have hX := zl_abs ha
    rw [h] at hX
    have : a = 0 := Int64.toInt_inj.mp (by have e0 : (0 : Int64).toInt = 0 := rfl; omega)
    subst this
    rw [Int64.zero_mul]
    exact Or.inr (by unfold zlb; decide)
  · rw [if_neg h]
    by_cases h2 : (if 0 ≤ b then b else -b) ≤ 1000000000000 / (if 0 ≤ a then a else -a)
    · rw [if_pos h2]
      exact Or.inr (zl_mul ha hb h h2)
    · rw [if_neg h2]; exact Or.inl rfl
theorem zJoin_b {c : Int32} {a b : Int64} (ha : zlb a) (hb : zlb b) : zJoin c a b = zER ∨ zlb (zJoin c a b) := by
  have z0 : zlb 0 := by unfold zlb; decide
  have z1 : zlb 1 := by unfold zlb; decide
  unfold zJoin
  by_cases c7 : c = 7
  · rw [if_pos c7]; exact Or.inr zlb_01
  rw [if_neg c7]
  by_cases c8 : c = 8
  · rw [if_pos c8]; exact Or.inr zlb_01
  rw [if_neg c8]
  by_cases c9 : c = 9
  · rw [if_pos c9]; exact Or.inr zlb_01
  rw [if_neg c9]
  by_cases c10 : c = 10
  · rw [if_pos c10]; exact Or.inr zlb_01
  rw [if_neg c10]
  by_cases c11 : c = 11
  · rw [if_pos c11]; exact Or.inr zlb_01
  rw [if_neg c11]
  by_cases c12 : c = 12
  · rw [if_pos c12]; exact Or.inr zlb_01
  rw [if_neg c12]
  by_cases c13 : c = 13
  · rw [if_pos c13]; exact zwth_b _
  rw [if_neg c13]
  by_cases c14 : c = 14
  · rw [if_pos c14]; exact zwth_b _
  rw [if_neg c14]
  by_cases c15 : c = 15
  · rw [if_pos c15]; exact zprd_b ha hb
  rw [if_neg c15]
  by_cases c30 : c = 30
  · rw [if_pos c30]
    by_cases h : a = 0
    · rw [if_neg (fun q => q h)]; exact Or.inr zlb_01
    · rw [if_pos h]; exact Or.inr z1
  rw [if_neg c30]
  by_cases c31 : c = 31
  · rw [if_pos c31]
    by_cases h : a = 0
    · rw [if_pos h]; exact Or.inr z0
    · rw [if_neg h]; exact Or.inr zlb_01
  rw [if_neg c31]
  by_cases h : b = 0
  · rw [if_neg (fun q => q h)]; exact Or.inl rfl
  · rw [if_pos h]; exact Or.inr (zl_div ha h)
/-- the reference's word for the sign c -/
def zsg (c : Int32) : Int32 := if c = 7 then 60 else if c = 8 then 256 else if c = 9 then 61 else if c = 10 then 257 else if c = 11 then 258 else if c = 12 then 62 else if c = 13 then 43 else if c = 14 then 45 else if c = 15 then 42 else if c = 16 then 47 else if c = 30 then 262 else if c = 31 then 261 else 260
def zsgn (c : Int32) : Prop := c = 7 ∨ c = 8 ∨ c = 9 ∨ c = 10 ∨ c = 11 ∨ c = 12 ∨ c = 13 ∨ c = 14 ∨ c = 15 ∨ c = 16 ∨ c = 30 ∨ c = 31
section ZP
variable {d pl dr p w N L T : Nat} {cp cw rp : Option Nat} {ia W : Nat → Nat → Int32} {la : Nat → Nat → Int64} {K : Option Value → zHP → Prop}
theorem S_worksN {q : Nat} {f : Nat → Int64} (hq : q < 64) (e : ia 127 34 = nI (q + 1)) : zWM (d + 5) 165 [.ref 127, .int 260] (ia, va_up la 146 f, zRA pl dr cp cw rp) K = K (some (.int 1)) (ia, va_up la 146 (va_up f q (if f q = 0 then 1 else 0)), zRA pl dr cp cw rp) := by
  rw [e165, b165_0, e, np, zg (by omega) (by omega), if_neg (by decide), zcln (by omega), zup_s]
  simp only [lg_cmp_eq, e164, b164_0, kS, b165_43]
  rw [zg (by omega) (by omega), zg (by omega) (by omega), zcln (by omega), zup_l, zup_l]
  by_cases h : f q = 0
  · rw [if_neg (fun z => z h), if_neg (by decide), if_pos h]
  · rw [if_pos h, if_pos (by decide), if_neg h]
theorem S_worksF {q : Nat} {f : Nat → Int64} {s : Int32} {y x v : Int64} (hq : q + 1 < 64) : zWP d 165 407 [some (.ref 127), some (.int s), some (.long y), none, some (.long x), none, some (.long v), none] [] (zu ia 127 34 (nI (q + 1)), va_up la 146 f, zRA pl dr cp cw rp) K = if zlb v then K (some (.int 1)) (zu ia 127 34 (nI (q + 1)), va_up la 146 (va_up f q v), zRA pl dr cp cw rp) else K (some (.int 0)) (zu ia 127 34 (nI (q + 1)), va_up la 146 (va_up f q v), zRA pl dr cp cw rp) := by
  rw [b165_407, zu_eq, np, zg (by omega) (by omega), zcln (by omega), zup_l]
  simp only [lg_cmp_gt, lg_cmp_lt]
  by_cases h1 : 1000000000000 < v
  · rw [if_pos h1, if_neg (fun z => by rw [zlb_gt] at h1; omega)]
  · rw [if_neg h1]
    by_cases h2 : v < -1000000000000
    · rw [if_pos h2, if_neg (fun z => by rw [zlb_lt] at h2; omega)]
    · rw [if_neg h2, if_pos (by rw [zlb_gt] at h1; rw [zlb_lt] at h2; omega)]
theorem S_worksB {q : Nat} {f : Nat → Int64} {c : Int32} (hq : q + 1 < 64) (e : ia 127 34 = nI (q + 2)) (hc : zsgn c) (h1 : zlb (f q)) (h2 : zlb (f (q + 1))) (hE : zJoin c (f q) (f (q + 1)) = zER → ∀ g, K (some (.int 0)) (zu ia 127 34 (nI (q + 1)), va_up la 146 g, zRA pl dr cp cw rp)) (hG : ¬ zJoin c (f q) (f (q + 1)) = zER → K (some (.int 1)) (zu ia 127 34 (nI (q + 1)), va_up la 146 (va_up f q (zJoin c (f q) (f (q + 1)))), zRA pl dr cp cw rp)) : zWM (d + 5) 165 [.ref 127, .int (zsg c)] (ia, va_up la 146 f, zRA pl dr cp cw rp) K := by
  have e1 : nI (q + 2) - 1 = nI (q + 1) := np (q + 1)
  have e2 : nI (q + 2) - 2 = nI q := by rw [show (2 : Int32) = nI 2 from rfl, pk_sub (by omega)]; congr 1
  rw [e165, b165_0, e, e1, e2, zg (by omega) (by omega), zg (by omega) (by omega), zcln (by omega), zcln (by omega), zup_s]
  obtain ⟨F, hF⟩ : ∃ F : Int64 → Prop, ∀ v, F v = K (some (.int 1)) (zu ia 127 34 (nI (q + 1)), va_up la 146 (va_up f q v), zRA pl dr cp cw rp) := ⟨_, fun _ => rfl⟩
  obtain ⟨E, hE2⟩ : ∃ F : Int64 → Prop, ∀ v, F v = K (some (.int 0)) (zu ia 127 34 (nI (q + 1)), va_up la 146 (va_up f q v), zRA pl dr cp cw rp) := ⟨_, fun _ => rfl⟩
  obtain ⟨E0, hE0⟩ : ∃ F : Prop, F = K (some (.int 0)) (zu ia 127 34 (nI (q + 1)), va_up la 146 f, zRA pl dr cp cw rp) := ⟨_, rfl⟩
  have wf : ∀ (s : Int32) (y x v : Int64), zWP (d + 5) 165 407 [some (.ref 127), some (.int s), some (.long y), none, some (.long x), none, some (.long v), none] [] (zu ia 127 34 (nI (q + 1)), va_up la 146 f, zRA pl dr cp cw rp) K = if zlb v then F v else E v := by
    intro s y x v
    rw [S_worksF hq, hF, hE2]
  simp only [lg_cmp_eq, lg_cmp_le, lg_cmp_lt, lg_cmp_ge, lg_cmp_gt, e164, b164_0, kS, b165_212, b165_253, b165_293, b165_273, b165_313, b165_353, b165_333, b165_379, b165_405, wf, zl_abs2, ← hE0]
  have bd := zJoin_b (c := c) h1 h2
  have hE3 : zJoin c (f q) (f (q + 1)) = zER → E0 ∧ ∀ v, E v := fun h => ⟨by rw [hE0]; exact hE h f, fun v => by rw [hE2]; exact hE h _⟩
  rw [← hF] at hG
  clear hE hF hE2 hE0 wf
  generalize f q = x at *
  generalize f (q + 1) = y at *
  have z0 : zlb 0 := by decide
  have z1 : zlb 1 := by decide
  rcases hc with hc | hc | hc | hc | hc | hc | hc | hc | hc | hc | hc | hc <;> subst hc
  · have ej : zJoin 7 x y = if y ≤ x then 0 else 1 := rfl
    rw [show zsg 7 = 60 from by decide]
    rw [ej] at hG hE3 bd
    by_cases hh : y ≤ x
    · simp only [hh, not_true, not_false_eq_true, if_true, if_false] at hG
      simp [hh, z0, z1, hG (zlb_ne (by decide))]
    · simp only [hh, not_true, not_false_eq_true, if_true, if_false] at hG
      simp [hh, z0, z1, hG (zlb_ne (by decide))]
  · have ej : zJoin 8 x y = if y < x then 0 else 1 := rfl
    rw [show zsg 8 = 256 from by decide]
    rw [ej] at hG hE3 bd
    by_cases hh : y < x
    · simp only [hh, not_true, not_false_eq_true, if_true, if_false] at hG
      simp [hh, z0, z1, hG (zlb_ne (by decide))]
    · simp only [hh, not_true, not_false_eq_true, if_true, if_false] at hG
      simp [hh, z0, z1, hG (zlb_ne (by decide))]
  · have ej : zJoin 9 x y = if ¬ x = y then 0 else 1 := rfl
    rw [show zsg 9 = 61 from by decide]
    rw [ej] at hG hE3 bd
    by_cases hh : x = y
    · simp only [hh, not_true, not_false_eq_true, if_true, if_false] at hG
      simp [hh, z0, z1, hG (zlb_ne (by decide))]
    · simp only [hh, not_true, not_false_eq_true, if_true, if_false] at hG
      simp [hh, z0, z1, hG (zlb_ne (by decide))]
  · have ej : zJoin 10 x y = if x = y then 0 else 1 := rfl
    rw [show zsg 10 = 257 from by decide]
    rw [ej] at hG hE3 bd
    by_cases hh : x = y
    · simp only [hh, not_true, not_false_eq_true, if_true, if_false] at hG
      simp [hh, z0, z1, hG (zlb_ne (by decide))]
    · simp only [hh, not_true, not_false_eq_true, if_true, if_false] at hG
      simp [hh, z0, z1, hG (zlb_ne (by decide))]
  · have ej : zJoin 11 x y = if x < y then 0 else 1 := rfl
    rw [show zsg 11 = 258 from by decide]
    rw [ej] at hG hE3 bd
    by_cases hh : x < y
    · simp only [hh, not_true, not_false_eq_true, if_true, if_false] at hG
      simp [hh, z0, z1, hG (zlb_ne (by decide))]
    · simp only [hh, not_true, not_false_eq_true, if_true, if_false] at hG
      simp [hh, z0, z1, hG (zlb_ne (by decide))]
  · have ej : zJoin 12 x y = if x ≤ y then 0 else 1 := rfl
    rw [show zsg 12 = 62 from by decide]
    rw [ej] at hG hE3 bd
    by_cases hh : x ≤ y
    · simp only [hh, not_true, not_false_eq_true, if_true, if_false] at hG
      simp [hh, z0, z1, hG (zlb_ne (by decide))]
    · simp only [hh, not_true, not_false_eq_true, if_true, if_false] at hG
      simp [hh, z0, z1, hG (zlb_ne (by decide))]
  · have ej : zJoin 13 x y = zwth (x + y) := rfl
    rw [show zsg 13 = 43 from by decide]
    rw [ej] at hG hE3
    clear bd ej
    generalize x + y = v at *
    have hw : zwth v = if 1000000000000 < v then zER else if -1000000000000 ≤ v then v else zER := rfl
    by_cases hh : zlb v
    · rw [if_neg (by rw [zlb_gt]; omega), if_pos (by rw [zlb_ge]; omega)] at hw
      rw [hw] at hG
      simp [hh, hG (zlb_ne hh)]
    · have hw2 : zwth v = zER := by
        rw [hw]
        by_cases q1 : 1000000000000 < v
        · rw [if_pos q1]
        · rw [if_neg q1, if_neg (fun q2 => hh (by rw [zlb_gt] at q1; rw [zlb_ge] at q2; omega))]
      simp [hh, (hE3 hw2).2]
  · have ej : zJoin 14 x y = zwth (x - y) := rfl
    rw [show zsg 14 = 45 from by decide]
    rw [ej] at hG hE3
    clear bd ej
    generalize x - y = v at *
    have hw : zwth v = if 1000000000000 < v then zER else if -1000000000000 ≤ v then v else zER := rfl
    by_cases hh : zlb v
    · rw [if_neg (by rw [zlb_gt]; omega), if_pos (by rw [zlb_ge]; omega)] at hw
      rw [hw] at hG
      simp [hh, hG (zlb_ne hh)]
    · have hw2 : zwth v = zER := by
        rw [hw]
        by_cases q1 : 1000000000000 < v
        · rw [if_pos q1]
        · rw [if_neg q1, if_neg (fun q2 => hh (by rw [zlb_gt] at q1; rw [zlb_ge] at q2; omega))]
      simp [hh, (hE3 hw2).2]
  · have ej : zJoin 15 x y = zprd x y := rfl
    rw [show zsg 15 = 42 from by decide]
    rw [ej] at hG hE3 bd
    have hw : zprd x y = if (if 0 ≤ x then x else -x) = 0 then x * y else if (if 0 ≤ y then y else -y) ≤ 1000000000000 / (if 0 ≤ x then x else -x) then x * y else zER := rfl
    by_cases hx : x = 0
    · subst hx
      rw [if_pos (by decide)] at hw
      rw [hw] at hG bd
      have hm : zlb (0 * y) := by rw [Int64.zero_mul]; exact z0
      have := hG (zlb_ne hm)
      rw [if_pos (by decide), if_pos rfl, if_pos rfl, if_pos hm]
      exact this
    · have hX : ¬ (if 0 ≤ x then x else -x) = 0 := by
        intro e0
        have := zl_abs h1
        rw [e0] at this
        exact hx (Int64.toInt_inj.mp (by have e0 : (0 : Int64).toInt = 0 := rfl; omega))
      rw [if_neg hX] at hw
      rw [if_pos (by decide), if_pos rfl, if_neg hx, zdrop hX]
      by_cases hy : (if 0 ≤ y then y else -y) ≤ 1000000000000 / (if 0 ≤ x then x else -x)
      · rw [if_pos hy] at hw
        rw [hw] at hG
        have hm := zl_mul h1 h2 hX hy
        rw [if_pos hy, if_pos hm]
        exact hG (zlb_ne hm)
      · rw [if_neg hy] at hw
        rw [if_neg hy]
        exact (hE3 hw).1
  · have ej : zJoin 16 x y = if ¬ y = 0 then x / y else zER := rfl
    rw [show zsg 16 = 47 from by decide]
    rw [ej] at hG hE3 bd
    by_cases hy : y = 0
    · have := (hE3 (by rw [if_neg (fun z => z hy)])).1
      simp [hy, this]
    · rw [if_pos hy] at hG
      have hm := zl_div (y := y) h1 hy
      clear bd ej hE3
      generalize x / y = v at *
      simp [hy, hm, hG (zlb_ne hm)]
  · have ej : zJoin 30 x y = if ¬ x = 0 then 1 else if y = 0 then 0 else 1 := rfl
    rw [show zsg 30 = 262 from by decide]
    rw [ej] at hG hE3 bd
    by_cases hx : x = 0
    · by_cases hy : y = 0
      · simp only [hx, hy, not_true, not_false_eq_true, if_true, if_false] at hG
        simp [hx, hy, z0, hG (zlb_ne (by decide))]
      · simp only [hx, hy, not_true, not_false_eq_true, if_true, if_false] at hG
        simp [hx, hy, z1, hG (zlb_ne (by decide))]
    · simp only [hx, not_true, not_false_eq_true, if_true, if_false] at hG
      simp [hx, z1, hG (zlb_ne (by decide))]
  · have ej : zJoin 31 x y = if x = 0 then 0 else if y = 0 then 0 else 1 := rfl
    rw [show zsg 31 = 261 from by decide]
    rw [ej] at hG hE3 bd
    by_cases hx : x = 0
    · simp only [hx, not_true, not_false_eq_true, if_true, if_false] at hG
      simp [hx, z0, hG (zlb_ne (by decide))]
    · by_cases hy : y = 0
      · simp only [hx, hy, not_true, not_false_eq_true, if_true, if_false] at hG
        simp [hx, hy, z0, hG (zlb_ne (by decide))]
      · simp only [hx, hy, not_true, not_false_eq_true, if_true, if_false] at hG
        simp [hx, hy, z1, hG (zlb_ne (by decide))]
/-- knots never want more values than are held, and one is left -/
def zchk (p : Nat → Nat → Int32) : Nat → Nat → Nat → Prop
  | 0, _, m => m = 1
  | n + 1, k, m =>
    if p 31 k = 2 ∨ ¬ p 31 k < 33 then zchk p n (k + 1) (m + 1) else
    if p 31 k = 32 then 0 < m ∧ zchk p n (k + 1) m else 1 < m ∧ zchk p n (k + 1) (m - 1)
/-- a knot of the class and one of the reference -/
def zKE (c v s u : Int32) : Prop := (c = 2 ∧ s = 0 ∧ u = v) ∨ (∃ j, j < 7 ∧ c = nI (33 + j) ∧ s = 1 ∧ u = nI j) ∨ (c = 32 ∧ s = 2 ∧ u = 260) ∨ (zsgn c ∧ s = 2 ∧ u = zsg c)
/-- only the reference's sums' longs differ -/
def zL7 (la la' : Nat → Nat → Int64) : Prop := ∀ c, c ≠ 145 → c ≠ 146 → la' c = la c
theorem zL7_r (la : Nat → Nat → Int64) : zL7 la la := fun _ _ _ => rfl
theorem zL7_t {a b c : Nat → Nat → Int64} (h : zL7 a b) (h2 : zL7 b c) : zL7 a c := fun k h4 h5 => (h2 k h4 h5).trans (h k h4 h5)
theorem zu_zu {α : Type} (f : Nat → Nat → α) (o k : Nat) (v u : α) : zu (zu f o k v) o k u = zu f o k u := by
  funext a b
  simp only [zu_at]
  by_cases h : a = o ∧ b = k
  · rw [if_pos h, if_pos h]
  · rw [if_neg h, if_neg h, if_neg h]
theorem S_goes_l {p : Nat → Nat → Int32} {r b : Nat} (hr : r < 3) (hb : ia 142 r = nI b) (hb6 : b ≤ 64) : ∀ (n k m : Nat) (f : Nat → Int64), k + n = b → m ≤ k → (∀ j, k ≤ j → j < b → zKE (p 31 j) (p 32 j) (ia 143 j) (ia 144 j)) → zchk p n k m → (∀ i, i < m → zlb (f i)) → (∀ i, i < 7 → zlb (la 145 i)) →
    (zRun p (la 145) n k m f = zER → ∀ x g, K (some (.int 0)) (zu ia 127 34 x, va_up la 146 g, zRA pl dr cp cw rp)) →
    (¬ zRun p (la 145) n k m f = zER → ∀ x g, g 0 = zRun p (la 145) n k m f → K (some (.int 1)) (zu ia 127 34 x, va_up la 146 g, zRA pl dr cp cw rp)) →
    zWP (d + 6) 166 12 [some (.ref 127), some (.int (nI r)), some (.int (nI k))] [] (zu ia 127 34 (nI m), va_up la 146 f, zRA pl dr cp cw rp) K := by
  intro n
  induction n with
  | zero =>
    intro k m f hk hm hz hc hf hn hE hG
    rw [b166_12, zg (by omega) (by omega), zcln (by omega), zu_o (by decide), hb, if_pos (nI_le1 (by omega) (by omega))]
    unfold zchk at hc
    subst hc
    unfold zRun at hE hG
    rw [if_neg (by decide)] at hE hG
    exact hG (zlb_ne (hf 0 (by omega))) _ f rfl
  | succ n ih =>
    intro k m f hk hm hz hc hf hn hE hG
    have hz' : ∀ j, k + 1 ≤ j → j < b → zKE (p 31 j) (p 32 j) (ia 143 j) (ia 144 j) := fun j h1 h2 => hz j (by omega) h2
    rw [b166_12, zg (by omega) (by omega), zcln (by omega), zu_o (by decide), hb, if_neg (nI_nle1 (by omega) (by omega)), zg (by omega) (by omega), zcln (by omega), zu_o (by decide), zu_o (by decide), zu_eq, ns, ns, zu_zu, zcln (by omega)]
    unfold zRun at hE hG
    unfold zchk at hc
    have grow : ∀ v, zlb v → ∀ i, i < m + 1 → zlb (va_up f m v i) := by
      intro v hv i hi
      unfold va_up
      by_cases e : i = m
      · rw [if_pos e]; exact hv
      · rw [if_neg e]; exact hf i (by omega)
    rcases hz k (by omega) (by omega) with ⟨c1, s1, u1⟩ | ⟨j, hj, c1, s1, u1⟩ | ⟨c1, s1, u1⟩ | ⟨c1, s1, u1⟩
    · rw [s1, u1, if_pos (by decide), if_neg (by decide), zg (by omega) (by omega), zup_l]
      rw [if_pos c1] at hE hG
      rw [if_pos (Or.inl c1)] at hc
      exact ih _ _ _ (by omega) (by omega) hz' hc (grow _ (zlb_i _)) hn hE hG
    · have n33 : ¬ p 31 k < 33 := by rw [c1]; exact qnlt_33 (by omega) (by omega)
      have n2 : ¬ p 31 k = 2 := by rw [c1]; exact qne_2 (by omega) (by omega)
      have e33 : p 31 k - 33 = nI j := by rw [c1, show (33 : Int32) = nI 33 from rfl, pk_sub (by omega)]; congr 1; omega
      rw [s1, u1, if_pos (by decide), if_pos (by decide), zg (by omega) (by omega), zg (by omega) (by omega), zup_l, zup_n (by decide), zcln (by omega)]
      rw [if_neg n2, if_pos n33, e33, zcln (by omega)] at hE hG
      rw [if_pos (Or.inr n33)] at hc
      exact ih _ _ _ (by omega) (by omega) hz' hc (grow _ (hn j hj)) hn hE hG
    · have c33 : p 31 k < 33 := by rw [c1]; decide
      have n2 : ¬ p 31 k = 2 := by rw [c1]; decide
      rw [s1, u1, if_neg (by decide)]
      rw [if_neg (by simp [n2, c33]), if_pos c1] at hc
      rw [if_neg n2, if_neg (fun z => z c33), if_pos ⟨c1, hc.1⟩] at hE hG
      obtain ⟨q, rfl⟩ : ∃ q, m = q + 1 := ⟨m - 1, by omega⟩
      rw [show q + 1 - 1 = q from by omega] at hE hG
      rw [S_worksN (q := q) (by omega) (zu_eq _ _ _ _), kS, b166_42, if_pos (by decide), ns]
      refine ih _ _ _ (by omega) (by omega) hz' hc.2 ?_ hn hE hG
      intro i hi
      unfold va_up
      by_cases e : i = q
      · rw [if_pos e]; exact zlb_10
      · rw [if_neg e]; exact hf i hi
    · have c33 : p 31 k < 33 := by rcases c1 with h | h | h | h | h | h | h | h | h | h | h | h <;> (rw [h]; decide)
      have n2 : ¬ p 31 k = 2 := by rcases c1 with h | h | h | h | h | h | h | h | h | h | h | h <;> (rw [h]; decide)
      have n32 : ¬ p 31 k = 32 := by rcases c1 with h | h | h | h | h | h | h | h | h | h | h | h <;> (rw [h]; decide)
      rw [s1, u1, if_neg (by decide)]
      rw [if_neg (by simp [n2, c33]), if_neg n32] at hc
      rw [if_neg n2, if_neg (fun z => z c33), if_neg (fun z => n32 z.1), if_neg (by omega)] at hE hG
      obtain ⟨q, rfl⟩ : ∃ q, m = q + 2 := ⟨m - 2, by omega⟩
      rw [show q + 2 - 2 = q from by omega, show q + 2 - 1 = q + 1 from by omega] at hE hG
      refine S_worksB (q := q) (by omega) (zu_eq _ _ _ _) c1 (hf q (by omega)) (hf (q + 1) (by omega)) ?_ ?_
      · intro hj g
        rw [if_pos hj] at hE
        rw [kS, b166_42, if_neg (by decide), zu_zu]
        exact hE rfl _ g
      · intro hj
        rw [if_neg hj] at hE hG
        rw [kS, b166_42, if_pos (by decide), zu_zu, ns]
        refine ih _ _ _ (by omega) (by omega) hz' hc.2 ?_ hn hE hG
        intro i hi
        unfold va_up
        by_cases e : i = q
        · rw [if_pos e]
          rcases zJoin_b (c := p 31 k) (hf q (by omega)) (hf (q + 1) (by omega)) with h | h
          · exact absurd h hj
          · exact h
        · rw [if_neg e]; exact hf i (by omega)
end ZP
