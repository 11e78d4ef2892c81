/-! numbers and the small methods of both sides -/
theorem n3a (n : Nat) : nI n * 3 + 0 = nI (3 * n) := by rw [show (3 : Int32) = nI 3 from rfl, show (0 : Int32) = nI 0 from rfl, pk_mul, nI_add]; congr 1; omega
theorem n3b (n : Nat) : nI n * 3 + 1 = nI (3 * n + 1) := by rw [show (3 : Int32) = nI 3 from rfl, show (1 : Int32) = nI 1 from rfl, pk_mul, nI_add]; congr 1; omega
theorem n3c (n : Nat) : nI n * 3 + 2 = nI (3 * n + 2) := by rw [show (3 : Int32) = nI 3 from rfl, show (2 : Int32) = nI 2 from rfl, pk_mul, nI_add]; congr 1; omega
theorem m3a (n : Nat) : 3 * nI n + 0 = nI (3 * n) := by rw [show (3 : Int32) = nI 3 from rfl, show (0 : Int32) = nI 0 from rfl, pk_mul, nI_add]; congr 1
theorem m3b (n : Nat) : 3 * nI n + 1 = nI (3 * n + 1) := by rw [show (3 : Int32) = nI 3 from rfl, show (1 : Int32) = nI 1 from rfl, pk_mul, nI_add]
theorem m3c (n : Nat) : 3 * nI n + 2 = nI (3 * n + 2) := by rw [show (3 : Int32) = nI 3 from rfl, show (2 : Int32) = nI 2 from rfl, pk_mul, nI_add]
theorem m6 (s n : Nat) : 6 * nI s + nI n = nI (6 * s + n) := by rw [show (6 : Int32) = nI 6 from rfl, pk_mul, nI_add]
theorem m12 (s n : Nat) : 12 * nI s + nI n = nI (12 * s + n) := by rw [show (12 : Int32) = nI 12 from rfl, pk_mul, nI_add]
theorem i01 : (0 : Int32) + 1 = 1 := by decide
theorem i11 : (1 : Int32) + 1 = 2 := by decide
theorem i21 : (2 : Int32) + 1 = 3 := by decide
theorem zvi {n N : Nat} (h : n < N) (hN : N < 100000) : vp_in (nI n) N := vp_in_nI h (by omega)
theorem zcln {n : Nat} (h : n < 100000) : (nI n).toNatClampNeg = n := nI_clamp (by omega)
/-- the far of x from 0 -/
def zab (x : Int32) : Int32 := if 0 ≤ x then x else 0 - x
/-- APART of three traits in thousandths from three told ones -/
def zds (f g : Nat → Int32) (a b : Nat) : Int32 := 0 + zab (f a - 1000 * g b) + zab (f (a + 1) - 1000 * g (b + 1)) + zab (f (a + 2) - 1000 * g (b + 2))
section ZP
variable {d pl dr : Nat} {cp cw rp : Option Nat} {ia : Nat → Nat → Int32} {la : Nat → Nat → Int64} {K : Option Value → zHP → Prop}
theorem S_isPerson (hpl : zIsP pl) {n : Int32} : zWM d 80 [.ref 0, .int n] (ia, la, zRA pl dr cp cw rp) K = K (some (.int (if n < 0 ∨ ia pl 1 ≤ n then 0 else 1))) (ia, la, zRA pl dr cp cw rp) := by
  rw [e80, b80_0 hpl]
  by_cases h1 : n < 0
  · simp only [h1, true_or, if_true]
  · by_cases h2 : ia pl 1 ≤ n
    · simp only [h1, h2, or_true, if_true, if_false]
    · simp only [h1, h2, or_false, if_false]
theorem S_isMan {n : Int32} : zWM d 171 [.ref 127, .int n] (ia, la, zRA pl dr cp cw rp) K = K (some (.int (if n < 0 ∨ ia 129 0 ≤ n then 0 else 1))) (ia, la, zRA pl dr cp cw rp) := by
  rw [e171, b171_0]
  by_cases h1 : n < 0
  · simp only [h1, true_or, if_true]
  · by_cases h2 : ia 129 0 ≤ n
    · simp only [h1, h2, or_true, if_true, if_false]
    · simp only [h1, h2, or_false, if_false]
theorem S_dist (hpl : zIsP pl) {a h q : Nat} (hk : zkd a = 100) (hn : 3 * h + 2 < zln a) (hl : zln a < 1000) (hq : q < 6) : zWM (d + 5) 95 [.ref 0, .ref a, .int (nI h), .int (nI q)] (ia, la, zRA pl dr cp cw rp) K = K (some (.int (zds (ia a) (ia (pl + 2)) (3 * h) (3 * q)))) (ia, la, zRA pl dr cp cw rp) := by
  rw [e95, b95_0]
  rw [b95_6 hpl, if_neg (by decide), n3a, n3a, zdrop ⟨hk, zvi (by omega) (by omega)⟩, zdrop (zvi (by omega) (by omega)), zcln (by omega), zcln (by omega), i01]
  rw [b95_6 hpl, if_neg (by decide), n3b, n3b, zdrop ⟨hk, zvi (by omega) (by omega)⟩, zdrop (zvi (by omega) (by omega)), zcln (by omega), zcln (by omega), i11]
  rw [b95_6 hpl, if_neg (by decide), n3c, n3c, zdrop ⟨hk, zvi (by omega) (by omega)⟩, zdrop (zvi (by omega) (by omega)), zcln (by omega), zcln (by omega), i21]
  rw [b95_6 hpl, if_pos (by decide)]
  rfl
theorem S_apartOf {s h q : Nat} (hs : s < 23) (hh : h < 6) (hq : q < 12) : zWM (d + 5) 189 [.ref 127, .int (nI s), .int (nI h), .int (nI q)] (ia, la, zRA pl dr cp cw rp) K = K (some (.int (zds (ia 152) (ia 131) (3 * (6 * s + h)) (3 * q)))) (ia, la, zRA pl dr cp cw rp) := by
  rw [e189, b189_0]
  rw [b189_6, if_neg (by decide), m6, m3a, m3a, zdrop (zvi (by omega) (by omega)), zdrop (zvi (by omega) (by omega)), zcln (by omega), zcln (by omega), i01]
  rw [b189_6, if_neg (by decide), m6, m3b, m3b, zdrop (zvi (by omega) (by omega)), zdrop (zvi (by omega) (by omega)), zcln (by omega), zcln (by omega), i11]
  rw [b189_6, if_neg (by decide), m6, m3c, m3c, zdrop (zvi (by omega) (by omega)), zdrop (zvi (by omega) (by omega)), zcln (by omega), zcln (by omega), i21]
  rw [b189_6, if_pos (by decide)]
  rfl
theorem S_isLet {w h : Nat} (hw : zIsW w) (hh : h < 6) : zWM d 69 [.ref w, .int (nI h)] (ia, la, zRA pl dr cp cw rp) K = K (some (.int (if ia (w + 3) h < 0 then 0 else 1))) (ia, la, zRA pl dr cp cw rp) := by
  rw [e69, b69_0 hw, zdrop (zvi hh (by omega)), zcln (by omega)]
  by_cases h1 : ia (w + 3) h < 0
  · simp only [h1, if_true]
  · simp only [h1, if_false]
end ZP
