/-! loops, cells, worlds -/
theorem zlpE (L : Nat → Prop) (N : Nat) (h : ∀ i, i < N → L i = L (i + 1)) : L 0 = L N := by
  induction N with
  | zero => rfl
  | succ n ih => rw [ih (fun i hi => h i (by omega)), h n (by omega)]
theorem zlpI (L : Nat → Prop) (N : Nat) (h : ∀ i, i < N → L (i + 1) → L i) (hN : L N) : L 0 := by
  induction N with
  | zero => exact hN
  | succ n ih => exact ih (fun i hi => h i (by omega)) (h n (by omega) hN)
/-- n steps, each told its number -/
def zit {α : Type} (f : Nat → α → α) : Nat → α → α
  | 0, a => a
  | n + 1, a => f n (zit f n a)
theorem zu_at {α : Type} (f : Nat → Nat → α) (o k : Nat) (v : α) (a b : Nat) : zu f o k v a b = if a = o ∧ b = k then v else f a b := by
  by_cases h : a = o
  · subst h
    rw [zu_self]
    unfold va_up
    by_cases h2 : b = k
    · subst h2; simp
    · simp [h2]
  · rw [zu_ne h]
    simp [h]
theorem zu_eq {α : Type} (f : Nat → Nat → α) (o k : Nat) (v : α) : zu f o k v o k = v := by rw [zu_at]; simp
theorem zu_k {α : Type} {f : Nat → Nat → α} {o k : Nat} {v : α} {a b : Nat} (h : b ≠ k) : zu f o k v a b = f a b := by rw [zu_at]; simp [h]
theorem zu_o {α : Type} {f : Nat → Nat → α} {o k : Nat} {v : α} {a : Nat} (h : a ≠ o) : zu f o k v a = f a := zu_ne h
theorem nI_le1 {a b : Nat} (h : a ≤ b) (hb : b < 100000) : nI a ≤ nI b := nI_le h (by omega)
theorem nI_nle1 {a b : Nat} (h : b < a) (hb : a < 100000) : ¬ nI a ≤ nI b := nI_ge h (by omega)
theorem zg {n N : Nat} {a : Prop} (h : n < N) (hN : N < 100000) : (vp_in (nI n) N ∧ a) = a := zdrop (zvi h hN)
theorem z3le {n : Nat} (h : n < 3) : ¬ (3 : Int32) ≤ nI n := nI_nle1 (a := 3) h (by omega)
theorem z6le {n : Nat} (h : n < 6) : ¬ (6 : Int32) ≤ nI n := nI_nle1 (a := 6) h (by omega)
theorem z12le {n : Nat} (h : n < 12) : ¬ (12 : Int32) ≤ nI n := nI_nle1 (a := 12) h (by omega)
theorem n3 (h k : Nat) : nI h * 3 + nI k = nI (3 * h + k) := by rw [show (3 : Int32) = nI 3 from rfl, pk_mul, nI_add]; congr 1; omega
theorem m3 (h k : Nat) : 3 * nI h + nI k = nI (3 * h + k) := by rw [show (3 : Int32) = nI 3 from rfl, pk_mul, nI_add]
theorem m3' (h : Nat) : 3 * nI h = nI (3 * h) := by rw [show (3 : Int32) = nI 3 from rfl, pk_mul]
theorem n3' (h : Nat) : nI h * 3 = nI (3 * h) := by rw [show (3 : Int32) = nI 3 from rfl, pk_mul]; congr 1; omega
theorem ns (n : Nat) : nI n + 1 = nI (n + 1) := nI_1 n
theorem nm (n : Nat) : nI (n + 1) + -1 = nI n := pk_m1 n
theorem np (n : Nat) : nI (n + 1) - 1 = nI n := nI_pred n
theorem zKifL {c : Prop} [Decidable c] {x y : Int64} {hp : zHP} {K : Option Value → zHP → Prop} : K (some (.long (if c then x else y))) hp = if c then K (some (.long x)) hp else K (some (.long y)) hp := by
  by_cases h : c
  · rw [if_pos h, if_pos h]
  · rw [if_neg h, if_neg h]
theorem zKifI {c : Prop} [Decidable c] {x y : Int32} {hp : zHP} {K : Option Value → zHP → Prop} : K (some (.int (if c then x else y))) hp = if c then K (some (.int x)) hp else K (some (.int y)) hp := by
  by_cases h : c
  · rw [if_pos h, if_pos h]
  · rw [if_neg h, if_neg h]
/-- the least long: an error -/
def zER : Int64 := -9223372036854775808
def zwth (v : Int64) : Int64 := if 1000000000000 < v then zER else if -1000000000000 ≤ v then v else zER
def zprd (a b : Int64) : Int64 := if (if 0 ≤ a then a else -a) = 0 then a * b else if (if 0 ≤ b then b else -b) ≤ 1000000000000 / (if 0 ≤ a then a else -a) then a * b else zER
/-- two values joined by the sign c -/
def zJoin (c : Int32) (a b : Int64) : Int64 :=
  if c = 7 then (if b ≤ a then 0 else 1) else
  if c = 8 then (if b < a then 0 else 1) else
  if c = 9 then (if ¬ a = b then 0 else 1) else
  if c = 10 then (if a = b then 0 else 1) else
  if c = 11 then (if a < b then 0 else 1) else
  if c = 12 then (if a ≤ b then 0 else 1) else
  if c = 13 then zwth (a + b) else
  if c = 14 then zwth (a - b) else
  if c = 15 then zprd a b else
  if c = 30 then (if ¬ a = 0 then 1 else if b = 0 then 0 else 1) else
  if c = 31 then (if a = 0 then 0 else if b = 0 then 0 else 1) else
  if ¬ b = 0 then a / b else zER
/-- n knots of the plan p from the k-th on, m values held in f -/
def zRun (p : Nat → Nat → Int32) (nm : Nat → Int64) : Nat → Nat → Nat → (Nat → Int64) → Int64
  | 0, _, m, f => if m = 0 then zER else f 0
  | n + 1, k, m, f =>
    if p 31 k = 2 then zRun p nm n (k + 1) (m + 1) (va_up f m (p 32 k).toInt64) else
    if ¬ p 31 k < 33 then zRun p nm n (k + 1) (m + 1) (va_up f m (nm (p 31 k - 33).toNatClampNeg)) else
    if p 31 k = 32 ∧ 0 < m then zRun p nm n (k + 1) m (va_up f (m - 1) (if f (m - 1) = 0 then 1 else 0)) else
    if m ≤ 1 then zRun p nm n (k + 1) m f else
    if zJoin (p 31 k) (f (m - 2)) (f (m - 1)) = zER then zER else zRun p nm n (k + 1) (m - 1) (va_up f (m - 2) (zJoin (p 31 k) (f (m - 2)) (f (m - 1))))
theorem zRun_ext (p : Nat → Nat → Int32) (nm : Nat → Int64) : ∀ (n k m : Nat) (f g : Nat → Int64), (∀ i, i < m → f i = g i) → zRun p nm n k m f = zRun p nm n k m g := by
  intro n
  induction n with
  | zero =>
    intro k m f g h
    unfold zRun
    by_cases hm : m = 0
    · rw [if_pos hm, if_pos hm]
    · rw [if_neg hm, if_neg hm, h 0 (by omega)]
  | succ n ih =>
    intro k m f g h
    unfold zRun
    have up : ∀ (j : Nat) (v : Int64) (m2 : Nat), m2 ≤ max m (j + 1) → (∀ i, i < m2 → i ≠ j → i < m) → ∀ i, i < m2 → va_up f j v i = va_up g j v i := by
      intro j v m2 _ h2 i hi
      unfold va_up
      by_cases e : i = j
      · rw [if_pos e, if_pos e]
      · rw [if_neg e, if_neg e, h i (h2 i hi e)]
    by_cases h1 : p 31 k = 2
    · rw [if_pos h1, if_pos h1]
      exact ih _ _ _ _ (up _ _ _ (by omega) (fun i hi hj => by omega))
    · rw [if_neg h1, if_neg h1]
      by_cases h2 : ¬ p 31 k < 33
      · rw [if_pos h2, if_pos h2]
        exact ih _ _ _ _ (up _ _ _ (by omega) (fun i hi hj => by omega))
      · rw [if_neg h2, if_neg h2]
        by_cases h3 : p 31 k = 32 ∧ 0 < m
        · rw [if_pos h3, if_pos h3, h (m - 1) (by omega)]
          exact ih _ _ _ _ (up _ _ _ (by omega) (fun i hi hj => by omega))
        · rw [if_neg h3, if_neg h3]
          by_cases h4 : m ≤ 1
          · rw [if_pos h4, if_pos h4]
            exact ih _ _ _ _ h
          · rw [if_neg h4, if_neg h4, h (m - 1) (by omega), h (m - 2) (by omega)]
            by_cases h5 : zJoin (p 31 k) (g (m - 2)) (g (m - 1)) = zER
            · rw [if_pos h5, if_pos h5]
            · rw [if_neg h5, if_neg h5]
              exact ih _ _ _ _ (up _ _ _ (by omega) (fun i hi hj => by omega))
/-- what the NAMES are for the hand h, the man m and the price pr in the world W -/
def zNm (W : Nat → Nat → Int32) (h m : Nat) (pr : Int32) : Nat → Int64 := fun k => if k < 3 then (W 2 (3 * h + k) / 1000).toInt64 else if k = 3 then (W 1 m).toInt64 else if k = 4 then pr.toInt64 else if k = 5 then (W 5 h).toInt64 else (W 0 0).toInt64
def zTl (la : Nat → Nat → Int64) (c : Nat) (f : Nat → Int64) : Nat → Nat → Int64 := fun o k => if o = c ∧ k < 7 then f k else la o k
/-- only the sums' own longs differ -/
def zL5 (la la' : Nat → Nat → Int64) : Prop := ∀ c, c ≠ 104 → c ≠ 105 → la' c = la c
theorem zL5_r (la : Nat → Nat → Int64) : zL5 la la := fun _ _ _ => rfl
theorem zL5_t {a b c : Nat → Nat → Int64} (h : zL5 a b) (h2 : zL5 b c) : zL5 a c := fun k h4 h5 => (h2 k h4 h5).trans (h k h4 h5)
/-- the world W put into the ten cells from w on -/
def zPW (w : Nat) (W ia : Nat → Nat → Int32) : Nat → Nat → Int32 := fun c => if w ≤ c ∧ c < w + 10 then W (c - w) else ia c
theorem zPW_g {w g : Nat} {W ia : Nat → Nat → Int32} (h : g < 10) : zPW w W ia (w + g) = W g := by
  unfold zPW
  rw [if_pos (by omega)]
  congr 1
  omega
theorem zPW_0 {w : Nat} {W ia : Nat → Nat → Int32} : zPW w W ia w = W 0 := zPW_g (g := 0) (by omega)
theorem zPW_o {w c : Nat} {W ia : Nat → Nat → Int32} (h : c < w ∨ w + 10 ≤ c) : zPW w W ia c = ia c := by
  unfold zPW
  rw [if_neg (by omega)]
theorem zIsP_lt {p : Nat} (h : zIsP p) : 6 ≤ p ∧ p + 33 ≤ 72 := by rcases h with h | h <;> omega
theorem zIsW_lt {w : Nat} (h : zIsW w) : 72 ≤ w ∧ w + 10 ≤ 102 := by rcases h with h | h | h <;> omega
theorem zPW_p {w p g : Nat} {W ia : Nat → Nat → Int32} (hw : zIsW w) (hp : zIsP p) (h : g < 33) : zPW w W ia (p + g) = ia (p + g) := zPW_o (by have := zIsW_lt hw; have := zIsP_lt hp; omega)
theorem zPW_p0 {w p : Nat} {W ia : Nat → Nat → Int32} (hw : zIsW w) (hp : zIsP p) : zPW w W ia p = ia p := zPW_p (g := 0) hw hp (by omega)
theorem zPW_102 {w c : Nat} {W ia : Nat → Nat → Int32} (hw : zIsW w) (h : 102 ≤ c) : zPW w W ia c = ia c := zPW_o (by have := zIsW_lt hw; omega)
theorem zPW_u {w g k : Nat} {v : Int32} {W ia : Nat → Nat → Int32} (h : g < 10) : zu (zPW w W ia) (w + g) k v = zPW w (zu W g k v) ia := by
  funext c j
  by_cases e : w ≤ c ∧ c < w + 10
  · obtain ⟨q, rfl⟩ : ∃ q, c = w + q := ⟨c - w, by omega⟩
    rw [zu_at, zPW_g (by omega), zPW_g (by omega), zu_at]
    by_cases e2 : q = g ∧ j = k
    · rw [if_pos e2, if_pos (by omega)]
    · rw [if_neg e2, if_neg (by omega)]
  · rw [zPW_o (by omega), zu_o (by omega), zPW_o (by omega)]
theorem zPW_u0 {w k : Nat} {v : Int32} {W ia : Nat → Nat → Int32} : zu (zPW w W ia) w k v = zPW w (zu W 0 k v) ia := zPW_u (g := 0) (by omega)
theorem zPW_s (w : Nat) (ia : Nat → Nat → Int32) : zPW w (fun g => ia (w + g)) ia = ia := by
  funext c j
  unfold zPW
  by_cases e : w ≤ c ∧ c < w + 10
  · rw [if_pos e]
    show ia (w + (c - w)) j = ia c j
    congr 1
    omega
  · rw [if_neg e]
theorem zPW_pw (w : Nat) (V W ia : Nat → Nat → Int32) : zPW w V (zPW w W ia) = zPW w V ia := by
  funext c j
  unfold zPW
  by_cases e : w ≤ c ∧ c < w + 10
  · rw [if_pos e, if_pos e]
  · rw [if_neg e, if_neg e, if_neg e]
theorem v0 {N : Nat} {a : Prop} (h : 0 < N) (hN : N < 100000) : (vp_in 0 N ∧ a) = a := zg (n := 0) h hN
theorem v1 {N : Nat} {a : Prop} (h : 1 < N) (hN : N < 100000) : (vp_in 1 N ∧ a) = a := zg (n := 1) h hN
theorem v2 {N : Nat} {a : Prop} (h : 2 < N) (hN : N < 100000) : (vp_in 2 N ∧ a) = a := zg (n := 2) h hN
theorem qle_0 {a : Nat} (h : a ≤ 0) : nI a ≤ 0 := nI_le1 (b := 0) h (by omega)
theorem qnle_0 {a : Nat} (h : 0 < a) (ha : a < 100000) : ¬ nI a ≤ 0 := nI_nle1 (b := 0) h ha
theorem qlt_0 {a : Nat} (h : a < 0) : nI a < 0 := nI_lt (b := 0) h (by omega)
theorem qnlt_0 {a : Nat} (h : 0 ≤ a) (ha : a < 100000) : ¬ nI a < 0 := nI_nlt (b := 0) h (by omega)
theorem qge_0 {a : Nat} (h : 0 ≤ a) (ha : a < 100000) : 0 ≤ nI a := nI_le1 (a := 0) h ha
theorem qnge_0 {a : Nat} (h : a < 0) : ¬ 0 ≤ nI a := nI_nle1 (a := 0) h (by omega)
theorem qgt_0 {a : Nat} (h : 0 < a) (ha : a < 100000) : 0 < nI a := nI_lt (a := 0) h (by omega)
theorem qngt_0 {a : Nat} (h : a ≤ 0) : ¬ 0 < nI a := nI_nlt (a := 0) h (by omega)
theorem qeq_0 {a : Nat} (ha : a < 100000) : nI a = 0 ↔ a = 0 := nI_eq (b := 0) (by omega) (by omega)
theorem qne_0 {a : Nat} (h : a ≠ 0) (ha : a < 100000) : ¬ nI a = 0 := fun q => h ((qeq_0 ha).mp q)
theorem qle_1 {a : Nat} (h : a ≤ 1) : nI a ≤ 1 := nI_le1 (b := 1) h (by omega)
theorem qnle_1 {a : Nat} (h : 1 < a) (ha : a < 100000) : ¬ nI a ≤ 1 := nI_nle1 (b := 1) h ha
theorem qlt_1 {a : Nat} (h : a < 1) : nI a < 1 := nI_lt (b := 1) h (by omega)
theorem qnlt_1 {a : Nat} (h : 1 ≤ a) (ha : a < 100000) : ¬ nI a < 1 := nI_nlt (b := 1) h (by omega)
theorem qge_1 {a : Nat} (h : 1 ≤ a) (ha : a < 100000) : 1 ≤ nI a := nI_le1 (a := 1) h ha
theorem qnge_1 {a : Nat} (h : a < 1) : ¬ 1 ≤ nI a := nI_nle1 (a := 1) h (by omega)
theorem qgt_1 {a : Nat} (h : 1 < a) (ha : a < 100000) : 1 < nI a := nI_lt (a := 1) h (by omega)
theorem qngt_1 {a : Nat} (h : a ≤ 1) : ¬ 1 < nI a := nI_nlt (a := 1) h (by omega)
theorem qeq_1 {a : Nat} (ha : a < 100000) : nI a = 1 ↔ a = 1 := nI_eq (b := 1) (by omega) (by omega)
theorem qne_1 {a : Nat} (h : a ≠ 1) (ha : a < 100000) : ¬ nI a = 1 := fun q => h ((qeq_1 ha).mp q)
theorem qad_1 (a : Nat) : nI a + 1 = nI (a + 1) := nI_add a 1
theorem qmu_1 (a : Nat) : nI a * 1 = nI (a * 1) := pk_mul a 1
theorem qum_1 (a : Nat) : 1 * nI a = nI (1 * a) := pk_mul 1 a
theorem qda_1 (a : Nat) : 1 + nI a = nI (1 + a) := nI_add 1 a
theorem qle_2 {a : Nat} (h : a ≤ 2) : nI a ≤ 2 := nI_le1 (b := 2) h (by omega)
theorem qnle_2 {a : Nat} (h : 2 < a) (ha : a < 100000) : ¬ nI a ≤ 2 := nI_nle1 (b := 2) h ha
theorem qlt_2 {a : Nat} (h : a < 2) : nI a < 2 := nI_lt (b := 2) h (by omega)
theorem qnlt_2 {a : Nat} (h : 2 ≤ a) (ha : a < 100000) : ¬ nI a < 2 := nI_nlt (b := 2) h (by omega)
theorem qge_2 {a : Nat} (h : 2 ≤ a) (ha : a < 100000) : 2 ≤ nI a := nI_le1 (a := 2) h ha
theorem qnge_2 {a : Nat} (h : a < 2) : ¬ 2 ≤ nI a := nI_nle1 (a := 2) h (by omega)
theorem qgt_2 {a : Nat} (h : 2 < a) (ha : a < 100000) : 2 < nI a := nI_lt (a := 2) h (by omega)
theorem qngt_2 {a : Nat} (h : a ≤ 2) : ¬ 2 < nI a := nI_nlt (a := 2) h (by omega)
theorem qeq_2 {a : Nat} (ha : a < 100000) : nI a = 2 ↔ a = 2 := nI_eq (b := 2) (by omega) (by omega)
theorem qne_2 {a : Nat} (h : a ≠ 2) (ha : a < 100000) : ¬ nI a = 2 := fun q => h ((qeq_2 ha).mp q)
theorem qad_2 (a : Nat) : nI a + 2 = nI (a + 2) := nI_add a 2
theorem qmu_2 (a : Nat) : nI a * 2 = nI (a * 2) := pk_mul a 2
theorem qum_2 (a : Nat) : 2 * nI a = nI (2 * a) := pk_mul 2 a
theorem qda_2 (a : Nat) : 2 + nI a = nI (2 + a) := nI_add 2 a
theorem qle_3 {a : Nat} (h : a ≤ 3) : nI a ≤ 3 := nI_le1 (b := 3) h (by omega)
theorem qnle_3 {a : Nat} (h : 3 < a) (ha : a < 100000) : ¬ nI a ≤ 3 := nI_nle1 (b := 3) h ha
theorem qlt_3 {a : Nat} (h : a < 3) : nI a < 3 := nI_lt (b := 3) h (by omega)
theorem qnlt_3 {a : Nat} (h : 3 ≤ a) (ha : a < 100000) : ¬ nI a < 3 := nI_nlt (b := 3) h (by omega)
theorem qge_3 {a : Nat} (h : 3 ≤ a) (ha : a < 100000) : 3 ≤ nI a := nI_le1 (a := 3) h ha
theorem qnge_3 {a : Nat} (h : a < 3) : ¬ 3 ≤ nI a := nI_nle1 (a := 3) h (by omega)
theorem qgt_3 {a : Nat} (h : 3 < a) (ha : a < 100000) : 3 < nI a := nI_lt (a := 3) h (by omega)
theorem qngt_3 {a : Nat} (h : a ≤ 3) : ¬ 3 < nI a := nI_nlt (a := 3) h (by omega)
theorem qeq_3 {a : Nat} (ha : a < 100000) : nI a = 3 ↔ a = 3 := nI_eq (b := 3) (by omega) (by omega)
theorem qne_3 {a : Nat} (h : a ≠ 3) (ha : a < 100000) : ¬ nI a = 3 := fun q => h ((qeq_3 ha).mp q)
theorem qad_3 (a : Nat) : nI a + 3 = nI (a + 3) := nI_add a 3
theorem qmu_3 (a : Nat) : nI a * 3 = nI (a * 3) := pk_mul a 3
theorem qum_3 (a : Nat) : 3 * nI a = nI (3 * a) := pk_mul 3 a
theorem qda_3 (a : Nat) : 3 + nI a = nI (3 + a) := nI_add 3 a
theorem qle_4 {a : Nat} (h : a ≤ 4) : nI a ≤ 4 := nI_le1 (b := 4) h (by omega)
theorem qnle_4 {a : Nat} (h : 4 < a) (ha : a < 100000) : ¬ nI a ≤ 4 := nI_nle1 (b := 4) h ha
theorem qlt_4 {a : Nat} (h : a < 4) : nI a < 4 := nI_lt (b := 4) h (by omega)
theorem qnlt_4 {a : Nat} (h : 4 ≤ a) (ha : a < 100000) : ¬ nI a < 4 := nI_nlt (b := 4) h (by omega)
theorem qge_4 {a : Nat} (h : 4 ≤ a) (ha : a < 100000) : 4 ≤ nI a := nI_le1 (a := 4) h ha
theorem qnge_4 {a : Nat} (h : a < 4) : ¬ 4 ≤ nI a := nI_nle1 (a := 4) h (by omega)
theorem qgt_4 {a : Nat} (h : 4 < a) (ha : a < 100000) : 4 < nI a := nI_lt (a := 4) h (by omega)
theorem qngt_4 {a : Nat} (h : a ≤ 4) : ¬ 4 < nI a := nI_nlt (a := 4) h (by omega)
theorem qeq_4 {a : Nat} (ha : a < 100000) : nI a = 4 ↔ a = 4 := nI_eq (b := 4) (by omega) (by omega)
theorem qne_4 {a : Nat} (h : a ≠ 4) (ha : a < 100000) : ¬ nI a = 4 := fun q => h ((qeq_4 ha).mp q)
theorem qad_4 (a : Nat) : nI a + 4 = nI (a + 4) := nI_add a 4
theorem qmu_4 (a : Nat) : nI a * 4 = nI (a * 4) := pk_mul a 4
theorem qum_4 (a : Nat) : 4 * nI a = nI (4 * a) := pk_mul 4 a
theorem qda_4 (a : Nat) : 4 + nI a = nI (4 + a) := nI_add 4 a
theorem qle_5 {a : Nat} (h : a ≤ 5) : nI a ≤ 5 := nI_le1 (b := 5) h (by omega)
theorem qnle_5 {a : Nat} (h : 5 < a) (ha : a < 100000) : ¬ nI a ≤ 5 := nI_nle1 (b := 5) h ha
theorem qlt_5 {a : Nat} (h : a < 5) : nI a < 5 := nI_lt (b := 5) h (by omega)
theorem qnlt_5 {a : Nat} (h : 5 ≤ a) (ha : a < 100000) : ¬ nI a < 5 := nI_nlt (b := 5) h (by omega)
theorem qge_5 {a : Nat} (h : 5 ≤ a) (ha : a < 100000) : 5 ≤ nI a := nI_le1 (a := 5) h ha
theorem qnge_5 {a : Nat} (h : a < 5) : ¬ 5 ≤ nI a := nI_nle1 (a := 5) h (by omega)
theorem qgt_5 {a : Nat} (h : 5 < a) (ha : a < 100000) : 5 < nI a := nI_lt (a := 5) h (by omega)
theorem qngt_5 {a : Nat} (h : a ≤ 5) : ¬ 5 < nI a := nI_nlt (a := 5) h (by omega)
theorem qeq_5 {a : Nat} (ha : a < 100000) : nI a = 5 ↔ a = 5 := nI_eq (b := 5) (by omega) (by omega)
theorem qne_5 {a : Nat} (h : a ≠ 5) (ha : a < 100000) : ¬ nI a = 5 := fun q => h ((qeq_5 ha).mp q)
theorem qad_5 (a : Nat) : nI a + 5 = nI (a + 5) := nI_add a 5
theorem qmu_5 (a : Nat) : nI a * 5 = nI (a * 5) := pk_mul a 5
theorem qum_5 (a : Nat) : 5 * nI a = nI (5 * a) := pk_mul 5 a
theorem qda_5 (a : Nat) : 5 + nI a = nI (5 + a) := nI_add 5 a
theorem qle_6 {a : Nat} (h : a ≤ 6) : nI a ≤ 6 := nI_le1 (b := 6) h (by omega)
theorem qnle_6 {a : Nat} (h : 6 < a) (ha : a < 100000) : ¬ nI a ≤ 6 := nI_nle1 (b := 6) h ha
theorem qlt_6 {a : Nat} (h : a < 6) : nI a < 6 := nI_lt (b := 6) h (by omega)
theorem qnlt_6 {a : Nat} (h : 6 ≤ a) (ha : a < 100000) : ¬ nI a < 6 := nI_nlt (b := 6) h (by omega)
theorem qge_6 {a : Nat} (h : 6 ≤ a) (ha : a < 100000) : 6 ≤ nI a := nI_le1 (a := 6) h ha
theorem qnge_6 {a : Nat} (h : a < 6) : ¬ 6 ≤ nI a := nI_nle1 (a := 6) h (by omega)
theorem qgt_6 {a : Nat} (h : 6 < a) (ha : a < 100000) : 6 < nI a := nI_lt (a := 6) h (by omega)
theorem qngt_6 {a : Nat} (h : a ≤ 6) : ¬ 6 < nI a := nI_nlt (a := 6) h (by omega)
theorem qeq_6 {a : Nat} (ha : a < 100000) : nI a = 6 ↔ a = 6 := nI_eq (b := 6) (by omega) (by omega)
theorem qne_6 {a : Nat} (h : a ≠ 6) (ha : a < 100000) : ¬ nI a = 6 := fun q => h ((qeq_6 ha).mp q)
theorem qad_6 (a : Nat) : nI a + 6 = nI (a + 6) := nI_add a 6
theorem qmu_6 (a : Nat) : nI a * 6 = nI (a * 6) := pk_mul a 6
theorem qum_6 (a : Nat) : 6 * nI a = nI (6 * a) := pk_mul 6 a
theorem qda_6 (a : Nat) : 6 + nI a = nI (6 + a) := nI_add 6 a
theorem qle_7 {a : Nat} (h : a ≤ 7) : nI a ≤ 7 := nI_le1 (b := 7) h (by omega)
theorem qnle_7 {a : Nat} (h : 7 < a) (ha : a < 100000) : ¬ nI a ≤ 7 := nI_nle1 (b := 7) h ha
theorem qlt_7 {a : Nat} (h : a < 7) : nI a < 7 := nI_lt (b := 7) h (by omega)
theorem qnlt_7 {a : Nat} (h : 7 ≤ a) (ha : a < 100000) : ¬ nI a < 7 := nI_nlt (b := 7) h (by omega)
theorem qge_7 {a : Nat} (h : 7 ≤ a) (ha : a < 100000) : 7 ≤ nI a := nI_le1 (a := 7) h ha
theorem qnge_7 {a : Nat} (h : a < 7) : ¬ 7 ≤ nI a := nI_nle1 (a := 7) h (by omega)
theorem qgt_7 {a : Nat} (h : 7 < a) (ha : a < 100000) : 7 < nI a := nI_lt (a := 7) h (by omega)
theorem qngt_7 {a : Nat} (h : a ≤ 7) : ¬ 7 < nI a := nI_nlt (a := 7) h (by omega)
theorem qeq_7 {a : Nat} (ha : a < 100000) : nI a = 7 ↔ a = 7 := nI_eq (b := 7) (by omega) (by omega)
theorem qne_7 {a : Nat} (h : a ≠ 7) (ha : a < 100000) : ¬ nI a = 7 := fun q => h ((qeq_7 ha).mp q)
theorem qad_7 (a : Nat) : nI a + 7 = nI (a + 7) := nI_add a 7
theorem qmu_7 (a : Nat) : nI a * 7 = nI (a * 7) := pk_mul a 7
theorem qum_7 (a : Nat) : 7 * nI a = nI (7 * a) := pk_mul 7 a
theorem qda_7 (a : Nat) : 7 + nI a = nI (7 + a) := nI_add 7 a
theorem qle_8 {a : Nat} (h : a ≤ 8) : nI a ≤ 8 := nI_le1 (b := 8) h (by omega)
theorem qnle_8 {a : Nat} (h : 8 < a) (ha : a < 100000) : ¬ nI a ≤ 8 := nI_nle1 (b := 8) h ha
theorem qlt_8 {a : Nat} (h : a < 8) : nI a < 8 := nI_lt (b := 8) h (by omega)
theorem qnlt_8 {a : Nat} (h : 8 ≤ a) (ha : a < 100000) : ¬ nI a < 8 := nI_nlt (b := 8) h (by omega)
theorem qge_8 {a : Nat} (h : 8 ≤ a) (ha : a < 100000) : 8 ≤ nI a := nI_le1 (a := 8) h ha
theorem qnge_8 {a : Nat} (h : a < 8) : ¬ 8 ≤ nI a := nI_nle1 (a := 8) h (by omega)
theorem qgt_8 {a : Nat} (h : 8 < a) (ha : a < 100000) : 8 < nI a := nI_lt (a := 8) h (by omega)
theorem qngt_8 {a : Nat} (h : a ≤ 8) : ¬ 8 < nI a := nI_nlt (a := 8) h (by omega)
theorem qeq_8 {a : Nat} (ha : a < 100000) : nI a = 8 ↔ a = 8 := nI_eq (b := 8) (by omega) (by omega)
theorem qne_8 {a : Nat} (h : a ≠ 8) (ha : a < 100000) : ¬ nI a = 8 := fun q => h ((qeq_8 ha).mp q)
theorem qad_8 (a : Nat) : nI a + 8 = nI (a + 8) := nI_add a 8
theorem qmu_8 (a : Nat) : nI a * 8 = nI (a * 8) := pk_mul a 8
theorem qum_8 (a : Nat) : 8 * nI a = nI (8 * a) := pk_mul 8 a
theorem qda_8 (a : Nat) : 8 + nI a = nI (8 + a) := nI_add 8 a
theorem qle_9 {a : Nat} (h : a ≤ 9) : nI a ≤ 9 := nI_le1 (b := 9) h (by omega)
theorem qnle_9 {a : Nat} (h : 9 < a) (ha : a < 100000) : ¬ nI a ≤ 9 := nI_nle1 (b := 9) h ha
theorem qlt_9 {a : Nat} (h : a < 9) : nI a < 9 := nI_lt (b := 9) h (by omega)
theorem qnlt_9 {a : Nat} (h : 9 ≤ a) (ha : a < 100000) : ¬ nI a < 9 := nI_nlt (b := 9) h (by omega)
theorem qge_9 {a : Nat} (h : 9 ≤ a) (ha : a < 100000) : 9 ≤ nI a := nI_le1 (a := 9) h ha
theorem qnge_9 {a : Nat} (h : a < 9) : ¬ 9 ≤ nI a := nI_nle1 (a := 9) h (by omega)
theorem qgt_9 {a : Nat} (h : 9 < a) (ha : a < 100000) : 9 < nI a := nI_lt (a := 9) h (by omega)
theorem qngt_9 {a : Nat} (h : a ≤ 9) : ¬ 9 < nI a := nI_nlt (a := 9) h (by omega)
theorem qeq_9 {a : Nat} (ha : a < 100000) : nI a = 9 ↔ a = 9 := nI_eq (b := 9) (by omega) (by omega)
theorem qne_9 {a : Nat} (h : a ≠ 9) (ha : a < 100000) : ¬ nI a = 9 := fun q => h ((qeq_9 ha).mp q)
theorem qad_9 (a : Nat) : nI a + 9 = nI (a + 9) := nI_add a 9
theorem qmu_9 (a : Nat) : nI a * 9 = nI (a * 9) := pk_mul a 9
theorem qum_9 (a : Nat) : 9 * nI a = nI (9 * a) := pk_mul 9 a
theorem qda_9 (a : Nat) : 9 + nI a = nI (9 + a) := nI_add 9 a
theorem qle_10 {a : Nat} (h : a ≤ 10) : nI a ≤ 10 := nI_le1 (b := 10) h (by omega)
theorem qnle_10 {a : Nat} (h : 10 < a) (ha : a < 100000) : ¬ nI a ≤ 10 := nI_nle1 (b := 10) h ha
theorem qlt_10 {a : Nat} (h : a < 10) : nI a < 10 := nI_lt (b := 10) h (by omega)
theorem qnlt_10 {a : Nat} (h : 10 ≤ a) (ha : a < 100000) : ¬ nI a < 10 := nI_nlt (b := 10) h (by omega)
theorem qge_10 {a : Nat} (h : 10 ≤ a) (ha : a < 100000) : 10 ≤ nI a := nI_le1 (a := 10) h ha
theorem qnge_10 {a : Nat} (h : a < 10) : ¬ 10 ≤ nI a := nI_nle1 (a := 10) h (by omega)
theorem qgt_10 {a : Nat} (h : 10 < a) (ha : a < 100000) : 10 < nI a := nI_lt (a := 10) h (by omega)
theorem qngt_10 {a : Nat} (h : a ≤ 10) : ¬ 10 < nI a := nI_nlt (a := 10) h (by omega)
theorem qeq_10 {a : Nat} (ha : a < 100000) : nI a = 10 ↔ a = 10 := nI_eq (b := 10) (by omega) (by omega)
theorem qne_10 {a : Nat} (h : a ≠ 10) (ha : a < 100000) : ¬ nI a = 10 := fun q => h ((qeq_10 ha).mp q)
theorem qad_10 (a : Nat) : nI a + 10 = nI (a + 10) := nI_add a 10
theorem qmu_10 (a : Nat) : nI a * 10 = nI (a * 10) := pk_mul a 10
theorem qum_10 (a : Nat) : 10 * nI a = nI (10 * a) := pk_mul 10 a
theorem qda_10 (a : Nat) : 10 + nI a = nI (10 + a) := nI_add 10 a
theorem qle_11 {a : Nat} (h : a ≤ 11) : nI a ≤ 11 := nI_le1 (b := 11) h (by omega)
theorem qnle_11 {a : Nat} (h : 11 < a) (ha : a < 100000) : ¬ nI a ≤ 11 := nI_nle1 (b := 11) h ha
theorem qlt_11 {a : Nat} (h : a < 11) : nI a < 11 := nI_lt (b := 11) h (by omega)
theorem qnlt_11 {a : Nat} (h : 11 ≤ a) (ha : a < 100000) : ¬ nI a < 11 := nI_nlt (b := 11) h (by omega)
theorem qge_11 {a : Nat} (h : 11 ≤ a) (ha : a < 100000) : 11 ≤ nI a := nI_le1 (a := 11) h ha
theorem qnge_11 {a : Nat} (h : a < 11) : ¬ 11 ≤ nI a := nI_nle1 (a := 11) h (by omega)
theorem qgt_11 {a : Nat} (h : 11 < a) (ha : a < 100000) : 11 < nI a := nI_lt (a := 11) h (by omega)
theorem qngt_11 {a : Nat} (h : a ≤ 11) : ¬ 11 < nI a := nI_nlt (a := 11) h (by omega)
theorem qeq_11 {a : Nat} (ha : a < 100000) : nI a = 11 ↔ a = 11 := nI_eq (b := 11) (by omega) (by omega)
theorem qne_11 {a : Nat} (h : a ≠ 11) (ha : a < 100000) : ¬ nI a = 11 := fun q => h ((qeq_11 ha).mp q)
theorem qad_11 (a : Nat) : nI a + 11 = nI (a + 11) := nI_add a 11
theorem qmu_11 (a : Nat) : nI a * 11 = nI (a * 11) := pk_mul a 11
theorem qum_11 (a : Nat) : 11 * nI a = nI (11 * a) := pk_mul 11 a
theorem qda_11 (a : Nat) : 11 + nI a = nI (11 + a) := nI_add 11 a
theorem qle_12 {a : Nat} (h : a ≤ 12) : nI a ≤ 12 := nI_le1 (b := 12) h (by omega)
theorem qnle_12 {a : Nat} (h : 12 < a) (ha : a < 100000) : ¬ nI a ≤ 12 := nI_nle1 (b := 12) h ha
theorem qlt_12 {a : Nat} (h : a < 12) : nI a < 12 := nI_lt (b := 12) h (by omega)
theorem qnlt_12 {a : Nat} (h : 12 ≤ a) (ha : a < 100000) : ¬ nI a < 12 := nI_nlt (b := 12) h (by omega)
theorem qge_12 {a : Nat} (h : 12 ≤ a) (ha : a < 100000) : 12 ≤ nI a := nI_le1 (a := 12) h ha
theorem qnge_12 {a : Nat} (h : a < 12) : ¬ 12 ≤ nI a := nI_nle1 (a := 12) h (by omega)
theorem qgt_12 {a : Nat} (h : 12 < a) (ha : a < 100000) : 12 < nI a := nI_lt (a := 12) h (by omega)
theorem qngt_12 {a : Nat} (h : a ≤ 12) : ¬ 12 < nI a := nI_nlt (a := 12) h (by omega)
theorem qeq_12 {a : Nat} (ha : a < 100000) : nI a = 12 ↔ a = 12 := nI_eq (b := 12) (by omega) (by omega)
theorem qne_12 {a : Nat} (h : a ≠ 12) (ha : a < 100000) : ¬ nI a = 12 := fun q => h ((qeq_12 ha).mp q)
theorem qad_12 (a : Nat) : nI a + 12 = nI (a + 12) := nI_add a 12
theorem qmu_12 (a : Nat) : nI a * 12 = nI (a * 12) := pk_mul a 12
theorem qum_12 (a : Nat) : 12 * nI a = nI (12 * a) := pk_mul 12 a
theorem qda_12 (a : Nat) : 12 + nI a = nI (12 + a) := nI_add 12 a
theorem qle_20 {a : Nat} (h : a ≤ 20) : nI a ≤ 20 := nI_le1 (b := 20) h (by omega)
theorem qnle_20 {a : Nat} (h : 20 < a) (ha : a < 100000) : ¬ nI a ≤ 20 := nI_nle1 (b := 20) h ha
theorem qlt_20 {a : Nat} (h : a < 20) : nI a < 20 := nI_lt (b := 20) h (by omega)
theorem qnlt_20 {a : Nat} (h : 20 ≤ a) (ha : a < 100000) : ¬ nI a < 20 := nI_nlt (b := 20) h (by omega)
theorem qge_20 {a : Nat} (h : 20 ≤ a) (ha : a < 100000) : 20 ≤ nI a := nI_le1 (a := 20) h ha
theorem qnge_20 {a : Nat} (h : a < 20) : ¬ 20 ≤ nI a := nI_nle1 (a := 20) h (by omega)
theorem qgt_20 {a : Nat} (h : 20 < a) (ha : a < 100000) : 20 < nI a := nI_lt (a := 20) h (by omega)
theorem qngt_20 {a : Nat} (h : a ≤ 20) : ¬ 20 < nI a := nI_nlt (a := 20) h (by omega)
theorem qeq_20 {a : Nat} (ha : a < 100000) : nI a = 20 ↔ a = 20 := nI_eq (b := 20) (by omega) (by omega)
theorem qne_20 {a : Nat} (h : a ≠ 20) (ha : a < 100000) : ¬ nI a = 20 := fun q => h ((qeq_20 ha).mp q)
theorem qad_20 (a : Nat) : nI a + 20 = nI (a + 20) := nI_add a 20
theorem qmu_20 (a : Nat) : nI a * 20 = nI (a * 20) := pk_mul a 20
theorem qum_20 (a : Nat) : 20 * nI a = nI (20 * a) := pk_mul 20 a
theorem qda_20 (a : Nat) : 20 + nI a = nI (20 + a) := nI_add 20 a
theorem qle_24 {a : Nat} (h : a ≤ 24) : nI a ≤ 24 := nI_le1 (b := 24) h (by omega)
theorem qnle_24 {a : Nat} (h : 24 < a) (ha : a < 100000) : ¬ nI a ≤ 24 := nI_nle1 (b := 24) h ha
theorem qlt_24 {a : Nat} (h : a < 24) : nI a < 24 := nI_lt (b := 24) h (by omega)
theorem qnlt_24 {a : Nat} (h : 24 ≤ a) (ha : a < 100000) : ¬ nI a < 24 := nI_nlt (b := 24) h (by omega)
theorem qge_24 {a : Nat} (h : 24 ≤ a) (ha : a < 100000) : 24 ≤ nI a := nI_le1 (a := 24) h ha
theorem qnge_24 {a : Nat} (h : a < 24) : ¬ 24 ≤ nI a := nI_nle1 (a := 24) h (by omega)
theorem qgt_24 {a : Nat} (h : 24 < a) (ha : a < 100000) : 24 < nI a := nI_lt (a := 24) h (by omega)
theorem qngt_24 {a : Nat} (h : a ≤ 24) : ¬ 24 < nI a := nI_nlt (a := 24) h (by omega)
theorem qeq_24 {a : Nat} (ha : a < 100000) : nI a = 24 ↔ a = 24 := nI_eq (b := 24) (by omega) (by omega)
theorem qne_24 {a : Nat} (h : a ≠ 24) (ha : a < 100000) : ¬ nI a = 24 := fun q => h ((qeq_24 ha).mp q)
theorem qad_24 (a : Nat) : nI a + 24 = nI (a + 24) := nI_add a 24
theorem qmu_24 (a : Nat) : nI a * 24 = nI (a * 24) := pk_mul a 24
theorem qum_24 (a : Nat) : 24 * nI a = nI (24 * a) := pk_mul 24 a
theorem qda_24 (a : Nat) : 24 + nI a = nI (24 + a) := nI_add 24 a
theorem qle_31 {a : Nat} (h : a ≤ 31) : nI a ≤ 31 := nI_le1 (b := 31) h (by omega)
theorem qnle_31 {a : Nat} (h : 31 < a) (ha : a < 100000) : ¬ nI a ≤ 31 := nI_nle1 (b := 31) h ha
theorem qlt_31 {a : Nat} (h : a < 31) : nI a < 31 := nI_lt (b := 31) h (by omega)
theorem qnlt_31 {a : Nat} (h : 31 ≤ a) (ha : a < 100000) : ¬ nI a < 31 := nI_nlt (b := 31) h (by omega)
theorem qge_31 {a : Nat} (h : 31 ≤ a) (ha : a < 100000) : 31 ≤ nI a := nI_le1 (a := 31) h ha
theorem qnge_31 {a : Nat} (h : a < 31) : ¬ 31 ≤ nI a := nI_nle1 (a := 31) h (by omega)
theorem qgt_31 {a : Nat} (h : 31 < a) (ha : a < 100000) : 31 < nI a := nI_lt (a := 31) h (by omega)
theorem qngt_31 {a : Nat} (h : a ≤ 31) : ¬ 31 < nI a := nI_nlt (a := 31) h (by omega)
theorem qeq_31 {a : Nat} (ha : a < 100000) : nI a = 31 ↔ a = 31 := nI_eq (b := 31) (by omega) (by omega)
theorem qne_31 {a : Nat} (h : a ≠ 31) (ha : a < 100000) : ¬ nI a = 31 := fun q => h ((qeq_31 ha).mp q)
theorem qad_31 (a : Nat) : nI a + 31 = nI (a + 31) := nI_add a 31
theorem qmu_31 (a : Nat) : nI a * 31 = nI (a * 31) := pk_mul a 31
theorem qum_31 (a : Nat) : 31 * nI a = nI (31 * a) := pk_mul 31 a
theorem qda_31 (a : Nat) : 31 + nI a = nI (31 + a) := nI_add 31 a
theorem qle_33 {a : Nat} (h : a ≤ 33) : nI a ≤ 33 := nI_le1 (b := 33) h (by omega)
theorem qnle_33 {a : Nat} (h : 33 < a) (ha : a < 100000) : ¬ nI a ≤ 33 := nI_nle1 (b := 33) h ha
theorem qlt_33 {a : Nat} (h : a < 33) : nI a < 33 := nI_lt (b := 33) h (by omega)
theorem qnlt_33 {a : Nat} (h : 33 ≤ a) (ha : a < 100000) : ¬ nI a < 33 := nI_nlt (b := 33) h (by omega)
theorem qge_33 {a : Nat} (h : 33 ≤ a) (ha : a < 100000) : 33 ≤ nI a := nI_le1 (a := 33) h ha
theorem qnge_33 {a : Nat} (h : a < 33) : ¬ 33 ≤ nI a := nI_nle1 (a := 33) h (by omega)
theorem qgt_33 {a : Nat} (h : 33 < a) (ha : a < 100000) : 33 < nI a := nI_lt (a := 33) h (by omega)
theorem qngt_33 {a : Nat} (h : a ≤ 33) : ¬ 33 < nI a := nI_nlt (a := 33) h (by omega)
theorem qeq_33 {a : Nat} (ha : a < 100000) : nI a = 33 ↔ a = 33 := nI_eq (b := 33) (by omega) (by omega)
theorem qne_33 {a : Nat} (h : a ≠ 33) (ha : a < 100000) : ¬ nI a = 33 := fun q => h ((qeq_33 ha).mp q)
theorem qad_33 (a : Nat) : nI a + 33 = nI (a + 33) := nI_add a 33
theorem qmu_33 (a : Nat) : nI a * 33 = nI (a * 33) := pk_mul a 33
theorem qum_33 (a : Nat) : 33 * nI a = nI (33 * a) := pk_mul 33 a
theorem qda_33 (a : Nat) : 33 + nI a = nI (33 + a) := nI_add 33 a
theorem qle_50 {a : Nat} (h : a ≤ 50) : nI a ≤ 50 := nI_le1 (b := 50) h (by omega)
theorem qnle_50 {a : Nat} (h : 50 < a) (ha : a < 100000) : ¬ nI a ≤ 50 := nI_nle1 (b := 50) h ha
theorem qlt_50 {a : Nat} (h : a < 50) : nI a < 50 := nI_lt (b := 50) h (by omega)
theorem qnlt_50 {a : Nat} (h : 50 ≤ a) (ha : a < 100000) : ¬ nI a < 50 := nI_nlt (b := 50) h (by omega)
theorem qge_50 {a : Nat} (h : 50 ≤ a) (ha : a < 100000) : 50 ≤ nI a := nI_le1 (a := 50) h ha
theorem qnge_50 {a : Nat} (h : a < 50) : ¬ 50 ≤ nI a := nI_nle1 (a := 50) h (by omega)
theorem qgt_50 {a : Nat} (h : 50 < a) (ha : a < 100000) : 50 < nI a := nI_lt (a := 50) h (by omega)
theorem qngt_50 {a : Nat} (h : a ≤ 50) : ¬ 50 < nI a := nI_nlt (a := 50) h (by omega)
theorem qeq_50 {a : Nat} (ha : a < 100000) : nI a = 50 ↔ a = 50 := nI_eq (b := 50) (by omega) (by omega)
theorem qne_50 {a : Nat} (h : a ≠ 50) (ha : a < 100000) : ¬ nI a = 50 := fun q => h ((qeq_50 ha).mp q)
theorem qad_50 (a : Nat) : nI a + 50 = nI (a + 50) := nI_add a 50
theorem qmu_50 (a : Nat) : nI a * 50 = nI (a * 50) := pk_mul a 50
theorem qum_50 (a : Nat) : 50 * nI a = nI (50 * a) := pk_mul 50 a
theorem qda_50 (a : Nat) : 50 + nI a = nI (50 + a) := nI_add 50 a
theorem qle_60 {a : Nat} (h : a ≤ 60) : nI a ≤ 60 := nI_le1 (b := 60) h (by omega)
theorem qnle_60 {a : Nat} (h : 60 < a) (ha : a < 100000) : ¬ nI a ≤ 60 := nI_nle1 (b := 60) h ha
theorem qlt_60 {a : Nat} (h : a < 60) : nI a < 60 := nI_lt (b := 60) h (by omega)
theorem qnlt_60 {a : Nat} (h : 60 ≤ a) (ha : a < 100000) : ¬ nI a < 60 := nI_nlt (b := 60) h (by omega)
theorem qge_60 {a : Nat} (h : 60 ≤ a) (ha : a < 100000) : 60 ≤ nI a := nI_le1 (a := 60) h ha
theorem qnge_60 {a : Nat} (h : a < 60) : ¬ 60 ≤ nI a := nI_nle1 (a := 60) h (by omega)
theorem qgt_60 {a : Nat} (h : 60 < a) (ha : a < 100000) : 60 < nI a := nI_lt (a := 60) h (by omega)
theorem qngt_60 {a : Nat} (h : a ≤ 60) : ¬ 60 < nI a := nI_nlt (a := 60) h (by omega)
theorem qeq_60 {a : Nat} (ha : a < 100000) : nI a = 60 ↔ a = 60 := nI_eq (b := 60) (by omega) (by omega)
theorem qne_60 {a : Nat} (h : a ≠ 60) (ha : a < 100000) : ¬ nI a = 60 := fun q => h ((qeq_60 ha).mp q)
theorem qad_60 (a : Nat) : nI a + 60 = nI (a + 60) := nI_add a 60
theorem qmu_60 (a : Nat) : nI a * 60 = nI (a * 60) := pk_mul a 60
theorem qum_60 (a : Nat) : 60 * nI a = nI (60 * a) := pk_mul 60 a
theorem qda_60 (a : Nat) : 60 + nI a = nI (60 + a) := nI_add 60 a
theorem qle_64 {a : Nat} (h : a ≤ 64) : nI a ≤ 64 := nI_le1 (b := 64) h (by omega)
theorem qnle_64 {a : Nat} (h : 64 < a) (ha : a < 100000) : ¬ nI a ≤ 64 := nI_nle1 (b := 64) h ha
theorem qlt_64 {a : Nat} (h : a < 64) : nI a < 64 := nI_lt (b := 64) h (by omega)
theorem qnlt_64 {a : Nat} (h : 64 ≤ a) (ha : a < 100000) : ¬ nI a < 64 := nI_nlt (b := 64) h (by omega)
theorem qge_64 {a : Nat} (h : 64 ≤ a) (ha : a < 100000) : 64 ≤ nI a := nI_le1 (a := 64) h ha
theorem qnge_64 {a : Nat} (h : a < 64) : ¬ 64 ≤ nI a := nI_nle1 (a := 64) h (by omega)
theorem qgt_64 {a : Nat} (h : 64 < a) (ha : a < 100000) : 64 < nI a := nI_lt (a := 64) h (by omega)
theorem qngt_64 {a : Nat} (h : a ≤ 64) : ¬ 64 < nI a := nI_nlt (a := 64) h (by omega)
theorem qeq_64 {a : Nat} (ha : a < 100000) : nI a = 64 ↔ a = 64 := nI_eq (b := 64) (by omega) (by omega)
theorem qne_64 {a : Nat} (h : a ≠ 64) (ha : a < 100000) : ¬ nI a = 64 := fun q => h ((qeq_64 ha).mp q)
theorem qad_64 (a : Nat) : nI a + 64 = nI (a + 64) := nI_add a 64
theorem qmu_64 (a : Nat) : nI a * 64 = nI (a * 64) := pk_mul a 64
theorem qum_64 (a : Nat) : 64 * nI a = nI (64 * a) := pk_mul 64 a
theorem qda_64 (a : Nat) : 64 + nI a = nI (64 + a) := nI_add 64 a
theorem qle_99 {a : Nat} (h : a ≤ 99) : nI a ≤ 99 := nI_le1 (b := 99) h (by omega)
theorem qnle_99 {a : Nat} (h : 99 < a) (ha : a < 100000) : ¬ nI a ≤ 99 := nI_nle1 (b := 99) h ha
theorem qlt_99 {a : Nat} (h : a < 99) : nI a < 99 := nI_lt (b := 99) h (by omega)
theorem qnlt_99 {a : Nat} (h : 99 ≤ a) (ha : a < 100000) : ¬ nI a < 99 := nI_nlt (b := 99) h (by omega)
theorem qge_99 {a : Nat} (h : 99 ≤ a) (ha : a < 100000) : 99 ≤ nI a := nI_le1 (a := 99) h ha
theorem qnge_99 {a : Nat} (h : a < 99) : ¬ 99 ≤ nI a := nI_nle1 (a := 99) h (by omega)
theorem qgt_99 {a : Nat} (h : 99 < a) (ha : a < 100000) : 99 < nI a := nI_lt (a := 99) h (by omega)
theorem qngt_99 {a : Nat} (h : a ≤ 99) : ¬ 99 < nI a := nI_nlt (a := 99) h (by omega)
theorem qeq_99 {a : Nat} (ha : a < 100000) : nI a = 99 ↔ a = 99 := nI_eq (b := 99) (by omega) (by omega)
theorem qne_99 {a : Nat} (h : a ≠ 99) (ha : a < 100000) : ¬ nI a = 99 := fun q => h ((qeq_99 ha).mp q)
theorem qad_99 (a : Nat) : nI a + 99 = nI (a + 99) := nI_add a 99
theorem qmu_99 (a : Nat) : nI a * 99 = nI (a * 99) := pk_mul a 99
theorem qum_99 (a : Nat) : 99 * nI a = nI (99 * a) := pk_mul 99 a
theorem qda_99 (a : Nat) : 99 + nI a = nI (99 + a) := nI_add 99 a
theorem qle_100 {a : Nat} (h : a ≤ 100) : nI a ≤ 100 := nI_le1 (b := 100) h (by omega)
theorem qnle_100 {a : Nat} (h : 100 < a) (ha : a < 100000) : ¬ nI a ≤ 100 := nI_nle1 (b := 100) h ha
theorem qlt_100 {a : Nat} (h : a < 100) : nI a < 100 := nI_lt (b := 100) h (by omega)
theorem qnlt_100 {a : Nat} (h : 100 ≤ a) (ha : a < 100000) : ¬ nI a < 100 := nI_nlt (b := 100) h (by omega)
theorem qge_100 {a : Nat} (h : 100 ≤ a) (ha : a < 100000) : 100 ≤ nI a := nI_le1 (a := 100) h ha
theorem qnge_100 {a : Nat} (h : a < 100) : ¬ 100 ≤ nI a := nI_nle1 (a := 100) h (by omega)
theorem qgt_100 {a : Nat} (h : 100 < a) (ha : a < 100000) : 100 < nI a := nI_lt (a := 100) h (by omega)
theorem qngt_100 {a : Nat} (h : a ≤ 100) : ¬ 100 < nI a := nI_nlt (a := 100) h (by omega)
theorem qeq_100 {a : Nat} (ha : a < 100000) : nI a = 100 ↔ a = 100 := nI_eq (b := 100) (by omega) (by omega)
theorem qne_100 {a : Nat} (h : a ≠ 100) (ha : a < 100000) : ¬ nI a = 100 := fun q => h ((qeq_100 ha).mp q)
theorem qad_100 (a : Nat) : nI a + 100 = nI (a + 100) := nI_add a 100
theorem qmu_100 (a : Nat) : nI a * 100 = nI (a * 100) := pk_mul a 100
theorem qum_100 (a : Nat) : 100 * nI a = nI (100 * a) := pk_mul 100 a
theorem qda_100 (a : Nat) : 100 + nI a = nI (100 + a) := nI_add 100 a
theorem qle_111 {a : Nat} (h : a ≤ 111) : nI a ≤ 111 := nI_le1 (b := 111) h (by omega)
theorem qnle_111 {a : Nat} (h : 111 < a) (ha : a < 100000) : ¬ nI a ≤ 111 := nI_nle1 (b := 111) h ha
theorem qlt_111 {a : Nat} (h : a < 111) : nI a < 111 := nI_lt (b := 111) h (by omega)
theorem qnlt_111 {a : Nat} (h : 111 ≤ a) (ha : a < 100000) : ¬ nI a < 111 := nI_nlt (b := 111) h (by omega)
theorem qge_111 {a : Nat} (h : 111 ≤ a) (ha : a < 100000) : 111 ≤ nI a := nI_le1 (a := 111) h ha
theorem qnge_111 {a : Nat} (h : a < 111) : ¬ 111 ≤ nI a := nI_nle1 (a := 111) h (by omega)
theorem qgt_111 {a : Nat} (h : 111 < a) (ha : a < 100000) : 111 < nI a := nI_lt (a := 111) h (by omega)
theorem qngt_111 {a : Nat} (h : a ≤ 111) : ¬ 111 < nI a := nI_nlt (a := 111) h (by omega)
theorem qeq_111 {a : Nat} (ha : a < 100000) : nI a = 111 ↔ a = 111 := nI_eq (b := 111) (by omega) (by omega)
theorem qne_111 {a : Nat} (h : a ≠ 111) (ha : a < 100000) : ¬ nI a = 111 := fun q => h ((qeq_111 ha).mp q)
theorem qad_111 (a : Nat) : nI a + 111 = nI (a + 111) := nI_add a 111
theorem qmu_111 (a : Nat) : nI a * 111 = nI (a * 111) := pk_mul a 111
theorem qum_111 (a : Nat) : 111 * nI a = nI (111 * a) := pk_mul 111 a
theorem qda_111 (a : Nat) : 111 + nI a = nI (111 + a) := nI_add 111 a
theorem qle_199 {a : Nat} (h : a ≤ 199) : nI a ≤ 199 := nI_le1 (b := 199) h (by omega)
theorem qnle_199 {a : Nat} (h : 199 < a) (ha : a < 100000) : ¬ nI a ≤ 199 := nI_nle1 (b := 199) h ha
theorem qlt_199 {a : Nat} (h : a < 199) : nI a < 199 := nI_lt (b := 199) h (by omega)
theorem qnlt_199 {a : Nat} (h : 199 ≤ a) (ha : a < 100000) : ¬ nI a < 199 := nI_nlt (b := 199) h (by omega)
theorem qge_199 {a : Nat} (h : 199 ≤ a) (ha : a < 100000) : 199 ≤ nI a := nI_le1 (a := 199) h ha
theorem qnge_199 {a : Nat} (h : a < 199) : ¬ 199 ≤ nI a := nI_nle1 (a := 199) h (by omega)
theorem qgt_199 {a : Nat} (h : 199 < a) (ha : a < 100000) : 199 < nI a := nI_lt (a := 199) h (by omega)
theorem qngt_199 {a : Nat} (h : a ≤ 199) : ¬ 199 < nI a := nI_nlt (a := 199) h (by omega)
theorem qeq_199 {a : Nat} (ha : a < 100000) : nI a = 199 ↔ a = 199 := nI_eq (b := 199) (by omega) (by omega)
theorem qne_199 {a : Nat} (h : a ≠ 199) (ha : a < 100000) : ¬ nI a = 199 := fun q => h ((qeq_199 ha).mp q)
theorem qad_199 (a : Nat) : nI a + 199 = nI (a + 199) := nI_add a 199
theorem qmu_199 (a : Nat) : nI a * 199 = nI (a * 199) := pk_mul a 199
theorem qum_199 (a : Nat) : 199 * nI a = nI (199 * a) := pk_mul 199 a
theorem qda_199 (a : Nat) : 199 + nI a = nI (199 + a) := nI_add 199 a
theorem qle_200 {a : Nat} (h : a ≤ 200) : nI a ≤ 200 := nI_le1 (b := 200) h (by omega)
theorem qnle_200 {a : Nat} (h : 200 < a) (ha : a < 100000) : ¬ nI a ≤ 200 := nI_nle1 (b := 200) h ha
theorem qlt_200 {a : Nat} (h : a < 200) : nI a < 200 := nI_lt (b := 200) h (by omega)
theorem qnlt_200 {a : Nat} (h : 200 ≤ a) (ha : a < 100000) : ¬ nI a < 200 := nI_nlt (b := 200) h (by omega)
theorem qge_200 {a : Nat} (h : 200 ≤ a) (ha : a < 100000) : 200 ≤ nI a := nI_le1 (a := 200) h ha
theorem qnge_200 {a : Nat} (h : a < 200) : ¬ 200 ≤ nI a := nI_nle1 (a := 200) h (by omega)
theorem qgt_200 {a : Nat} (h : 200 < a) (ha : a < 100000) : 200 < nI a := nI_lt (a := 200) h (by omega)
theorem qngt_200 {a : Nat} (h : a ≤ 200) : ¬ 200 < nI a := nI_nlt (a := 200) h (by omega)
theorem qeq_200 {a : Nat} (ha : a < 100000) : nI a = 200 ↔ a = 200 := nI_eq (b := 200) (by omega) (by omega)
theorem qne_200 {a : Nat} (h : a ≠ 200) (ha : a < 100000) : ¬ nI a = 200 := fun q => h ((qeq_200 ha).mp q)
theorem qad_200 (a : Nat) : nI a + 200 = nI (a + 200) := nI_add a 200
theorem qmu_200 (a : Nat) : nI a * 200 = nI (a * 200) := pk_mul a 200
theorem qum_200 (a : Nat) : 200 * nI a = nI (200 * a) := pk_mul 200 a
theorem qda_200 (a : Nat) : 200 + nI a = nI (200 + a) := nI_add 200 a
theorem qle_680 {a : Nat} (h : a ≤ 680) : nI a ≤ 680 := nI_le1 (b := 680) h (by omega)
theorem qnle_680 {a : Nat} (h : 680 < a) (ha : a < 100000) : ¬ nI a ≤ 680 := nI_nle1 (b := 680) h ha
theorem qlt_680 {a : Nat} (h : a < 680) : nI a < 680 := nI_lt (b := 680) h (by omega)
theorem qnlt_680 {a : Nat} (h : 680 ≤ a) (ha : a < 100000) : ¬ nI a < 680 := nI_nlt (b := 680) h (by omega)
theorem qge_680 {a : Nat} (h : 680 ≤ a) (ha : a < 100000) : 680 ≤ nI a := nI_le1 (a := 680) h ha
theorem qnge_680 {a : Nat} (h : a < 680) : ¬ 680 ≤ nI a := nI_nle1 (a := 680) h (by omega)
theorem qgt_680 {a : Nat} (h : 680 < a) (ha : a < 100000) : 680 < nI a := nI_lt (a := 680) h (by omega)
theorem qngt_680 {a : Nat} (h : a ≤ 680) : ¬ 680 < nI a := nI_nlt (a := 680) h (by omega)
theorem qeq_680 {a : Nat} (ha : a < 100000) : nI a = 680 ↔ a = 680 := nI_eq (b := 680) (by omega) (by omega)
theorem qne_680 {a : Nat} (h : a ≠ 680) (ha : a < 100000) : ¬ nI a = 680 := fun q => h ((qeq_680 ha).mp q)
theorem qad_680 (a : Nat) : nI a + 680 = nI (a + 680) := nI_add a 680
theorem qmu_680 (a : Nat) : nI a * 680 = nI (a * 680) := pk_mul a 680
theorem qum_680 (a : Nat) : 680 * nI a = nI (680 * a) := pk_mul 680 a
theorem qda_680 (a : Nat) : 680 + nI a = nI (680 + a) := nI_add 680 a
theorem qle_700 {a : Nat} (h : a ≤ 700) : nI a ≤ 700 := nI_le1 (b := 700) h (by omega)
theorem qnle_700 {a : Nat} (h : 700 < a) (ha : a < 100000) : ¬ nI a ≤ 700 := nI_nle1 (b := 700) h ha
theorem qlt_700 {a : Nat} (h : a < 700) : nI a < 700 := nI_lt (b := 700) h (by omega)
theorem qnlt_700 {a : Nat} (h : 700 ≤ a) (ha : a < 100000) : ¬ nI a < 700 := nI_nlt (b := 700) h (by omega)
theorem qge_700 {a : Nat} (h : 700 ≤ a) (ha : a < 100000) : 700 ≤ nI a := nI_le1 (a := 700) h ha
theorem qnge_700 {a : Nat} (h : a < 700) : ¬ 700 ≤ nI a := nI_nle1 (a := 700) h (by omega)
theorem qgt_700 {a : Nat} (h : 700 < a) (ha : a < 100000) : 700 < nI a := nI_lt (a := 700) h (by omega)
theorem qngt_700 {a : Nat} (h : a ≤ 700) : ¬ 700 < nI a := nI_nlt (a := 700) h (by omega)
theorem qeq_700 {a : Nat} (ha : a < 100000) : nI a = 700 ↔ a = 700 := nI_eq (b := 700) (by omega) (by omega)
theorem qne_700 {a : Nat} (h : a ≠ 700) (ha : a < 100000) : ¬ nI a = 700 := fun q => h ((qeq_700 ha).mp q)
theorem qad_700 (a : Nat) : nI a + 700 = nI (a + 700) := nI_add a 700
theorem qmu_700 (a : Nat) : nI a * 700 = nI (a * 700) := pk_mul a 700
theorem qum_700 (a : Nat) : 700 * nI a = nI (700 * a) := pk_mul 700 a
theorem qda_700 (a : Nat) : 700 + nI a = nI (700 + a) := nI_add 700 a
theorem qle_999 {a : Nat} (h : a ≤ 999) : nI a ≤ 999 := nI_le1 (b := 999) h (by omega)
theorem qnle_999 {a : Nat} (h : 999 < a) (ha : a < 100000) : ¬ nI a ≤ 999 := nI_nle1 (b := 999) h ha
theorem qlt_999 {a : Nat} (h : a < 999) : nI a < 999 := nI_lt (b := 999) h (by omega)
theorem qnlt_999 {a : Nat} (h : 999 ≤ a) (ha : a < 100000) : ¬ nI a < 999 := nI_nlt (b := 999) h (by omega)
theorem qge_999 {a : Nat} (h : 999 ≤ a) (ha : a < 100000) : 999 ≤ nI a := nI_le1 (a := 999) h ha
theorem qnge_999 {a : Nat} (h : a < 999) : ¬ 999 ≤ nI a := nI_nle1 (a := 999) h (by omega)
theorem qgt_999 {a : Nat} (h : 999 < a) (ha : a < 100000) : 999 < nI a := nI_lt (a := 999) h (by omega)
theorem qngt_999 {a : Nat} (h : a ≤ 999) : ¬ 999 < nI a := nI_nlt (a := 999) h (by omega)
theorem qeq_999 {a : Nat} (ha : a < 100000) : nI a = 999 ↔ a = 999 := nI_eq (b := 999) (by omega) (by omega)
theorem qne_999 {a : Nat} (h : a ≠ 999) (ha : a < 100000) : ¬ nI a = 999 := fun q => h ((qeq_999 ha).mp q)
theorem qad_999 (a : Nat) : nI a + 999 = nI (a + 999) := nI_add a 999
theorem qmu_999 (a : Nat) : nI a * 999 = nI (a * 999) := pk_mul a 999
theorem qum_999 (a : Nat) : 999 * nI a = nI (999 * a) := pk_mul 999 a
theorem qda_999 (a : Nat) : 999 + nI a = nI (999 + a) := nI_add 999 a
theorem qle_9800 {a : Nat} (h : a ≤ 9800) : nI a ≤ 9800 := nI_le1 (b := 9800) h (by omega)
theorem qnle_9800 {a : Nat} (h : 9800 < a) (ha : a < 100000) : ¬ nI a ≤ 9800 := nI_nle1 (b := 9800) h ha
theorem qlt_9800 {a : Nat} (h : a < 9800) : nI a < 9800 := nI_lt (b := 9800) h (by omega)
theorem qnlt_9800 {a : Nat} (h : 9800 ≤ a) (ha : a < 100000) : ¬ nI a < 9800 := nI_nlt (b := 9800) h (by omega)
theorem qge_9800 {a : Nat} (h : 9800 ≤ a) (ha : a < 100000) : 9800 ≤ nI a := nI_le1 (a := 9800) h ha
theorem qnge_9800 {a : Nat} (h : a < 9800) : ¬ 9800 ≤ nI a := nI_nle1 (a := 9800) h (by omega)
theorem qgt_9800 {a : Nat} (h : 9800 < a) (ha : a < 100000) : 9800 < nI a := nI_lt (a := 9800) h (by omega)
theorem qngt_9800 {a : Nat} (h : a ≤ 9800) : ¬ 9800 < nI a := nI_nlt (a := 9800) h (by omega)
theorem qeq_9800 {a : Nat} (ha : a < 100000) : nI a = 9800 ↔ a = 9800 := nI_eq (b := 9800) (by omega) (by omega)
theorem qne_9800 {a : Nat} (h : a ≠ 9800) (ha : a < 100000) : ¬ nI a = 9800 := fun q => h ((qeq_9800 ha).mp q)
theorem qad_9800 (a : Nat) : nI a + 9800 = nI (a + 9800) := nI_add a 9800
theorem qmu_9800 (a : Nat) : nI a * 9800 = nI (a * 9800) := pk_mul a 9800
theorem qum_9800 (a : Nat) : 9800 * nI a = nI (9800 * a) := pk_mul 9800 a
theorem qda_9800 (a : Nat) : 9800 + nI a = nI (9800 + a) := nI_add 9800 a
theorem qle_9999 {a : Nat} (h : a ≤ 9999) : nI a ≤ 9999 := nI_le1 (b := 9999) h (by omega)
theorem qnle_9999 {a : Nat} (h : 9999 < a) (ha : a < 100000) : ¬ nI a ≤ 9999 := nI_nle1 (b := 9999) h ha
theorem qlt_9999 {a : Nat} (h : a < 9999) : nI a < 9999 := nI_lt (b := 9999) h (by omega)
theorem qnlt_9999 {a : Nat} (h : 9999 ≤ a) (ha : a < 100000) : ¬ nI a < 9999 := nI_nlt (b := 9999) h (by omega)
theorem qge_9999 {a : Nat} (h : 9999 ≤ a) (ha : a < 100000) : 9999 ≤ nI a := nI_le1 (a := 9999) h ha
theorem qnge_9999 {a : Nat} (h : a < 9999) : ¬ 9999 ≤ nI a := nI_nle1 (a := 9999) h (by omega)
theorem qgt_9999 {a : Nat} (h : 9999 < a) (ha : a < 100000) : 9999 < nI a := nI_lt (a := 9999) h (by omega)
theorem qngt_9999 {a : Nat} (h : a ≤ 9999) : ¬ 9999 < nI a := nI_nlt (a := 9999) h (by omega)
theorem qeq_9999 {a : Nat} (ha : a < 100000) : nI a = 9999 ↔ a = 9999 := nI_eq (b := 9999) (by omega) (by omega)
theorem qne_9999 {a : Nat} (h : a ≠ 9999) (ha : a < 100000) : ¬ nI a = 9999 := fun q => h ((qeq_9999 ha).mp q)
theorem qad_9999 (a : Nat) : nI a + 9999 = nI (a + 9999) := nI_add a 9999
theorem qmu_9999 (a : Nat) : nI a * 9999 = nI (a * 9999) := pk_mul a 9999
theorem qum_9999 (a : Nat) : 9999 * nI a = nI (9999 * a) := pk_mul 9999 a
theorem qda_9999 (a : Nat) : 9999 + nI a = nI (9999 + a) := nI_add 9999 a
