/-! a token of the reference -/
def zwSt (k : Nat) : Nat := [0, 4, 10, 17, 22, 28, 33, 37, 42, 47, 52, 55, 59, 63, 69, 75, 82, 88, 94, 100, 104].getD k 104
def zwLn (k : Nat) : Nat := [3, 5, 6, 4, 5, 4, 3, 4, 4, 4, 2, 3, 3, 5, 5, 6, 5, 5, 5, 3].getD k 0
def zdg (k j : Nat) : Nat := zLw.getD k 0 / 32 ^ (5 - j) % 32
theorem zw_l : ∀ k, k < 20 → ∀ j, j < zwLn k → zwds.getD (zwSt k + j) 0 = nI (96 + zdg k j) ∧ 1 ≤ zdg k j ∧ zdg k j ≤ 26 := by decide +kernel
theorem zw_e : ∀ k, k < 20 → zwds.getD (zwSt k + zwLn k) 0 = 32 ∧ zwSt (k + 1) = zwSt k + zwLn k + 1 ∧ zwLn k ≤ 6 ∧ zwSt k + zwLn k < 104 := by decide +kernel
theorem zw_0 : ∀ k, k < 20 → ∀ j, j < 6 → zwLn k ≤ j → zdg k j = 0 := by decide +kernel
theorem zw_n : zwds.length = 104 := by decide +kernel
theorem zw_b : ∀ k, k < 20 → zLw.getD k 0 < 2 ^ 30 := by decide +kernel
abbrev zWq (b : Nat → Nat) (p m k : Nat) : Prop := m = zwLn k ∧ ∀ j, j < m → b (p + j) = 96 + zdg k j
/-- the number of a word, -1: none -/
def ytWi (b : Nat → Nat) (p m : Nat) : Nat → Nat → Int32
  | 0, _ => -1
  | f + 1, k => if zWq b p m k then nI k else ytWi b p m f (k + 1)
/-- six letters, one behind another -/
def zhp (b : Nat → Nat) (p m : Nat) : Nat → Nat
  | 0 => 0
  | k + 1 => zhp b p m k * 32 + (if k < m then b (p + k) - 96 else 0)
theorem zor5 {a x s : Nat} (hx : x < 32) : (a * 2 ^ (s + 5)) ||| (x * 2 ^ s) = (a * 32 + x) * 2 ^ s := by
  have h1 : (a * 32) ||| x = a * 32 + x := by
    have := Nat.shiftLeft_add_eq_or_of_lt (i := 5) (b := x) (by omega) a
    rw [Nat.shiftLeft_eq] at this
    exact this.symm
  rw [← h1, ← Nat.shiftLeft_eq, ← Nat.shiftLeft_eq, ← Nat.shiftLeft_eq, Nat.shiftLeft_or_distrib]
  congr 1
  rw [Nat.shiftLeft_eq, Nat.shiftLeft_eq, Nat.mul_assoc, show (32 : Nat) = 2 ^ 5 from rfl, ← Nat.pow_add, Nat.add_comm 5 s]
theorem zhp_b {b : Nat → Nat} {p m : Nat} (hl : ∀ j, j < m → zsml (b (p + j)) = true) : ∀ k, zhp b p m k < 2 ^ (5 * k) := by
  intro k
  induction k with
  | zero => show 0 < 1; omega
  | succ k ih =>
    show zhp b p m k * 32 + (if k < m then b (p + k) - 96 else 0) < 2 ^ (5 * k + 5)
    have h : (if k < m then b (p + k) - 96 else 0) < 32 := by
      split
      next c => have := of_decide_eq_true (hl k c); omega
      next => omega
    rw [Nat.pow_add]
    show _ < 2 ^ (5 * k) * 32
    omega
theorem zpv_h {b : Nat → Nat} {p m : Nat} (h6 : m ≤ 6) (hl : ∀ j, j < m → zsml (b (p + j)) = true) : ∀ j, j ≤ m → zpv b p j = zhp b p m j * 2 ^ (30 - 5 * j) := by
  intro j
  induction j with
  | zero => intro _; show 0 = 0 * _; omega
  | succ j ih =>
    intro hj
    have hb := of_decide_eq_true (hl j (by omega))
    show (if j < 6 then zpv b p j ||| ((b (p + j) - 96) * 2 ^ (5 * (5 - j))) else zpv b p j) = (zhp b p m j * 32 + (if j < m then b (p + j) - 96 else 0)) * 2 ^ (30 - 5 * (j + 1))
    rw [if_pos (by omega), if_pos (by omega), ih (by omega), show 30 - 5 * j = (30 - 5 * (j + 1)) + 5 by omega, show 5 * (5 - j) = 30 - 5 * (j + 1) by omega]
    exact zor5 (by omega)
theorem zhp_6 {b : Nat → Nat} {p m : Nat} (h6 : m ≤ 6) (hl : ∀ j, j < m → zsml (b (p + j)) = true) : zhp b p m 6 = zpv b p m := by
  rw [zpv_h h6 hl m (Nat.le_refl _)]
  have step : ∀ t, zhp b p m (m + t) = zhp b p m m * 32 ^ t := by
    intro t
    induction t with
    | zero => rw [Nat.pow_zero, Nat.mul_one]; rfl
    | succ t ih =>
      show zhp b p m (m + t) * 32 + (if m + t < m then b (p + (m + t)) - 96 else 0) = _
      rw [if_neg (by omega), ih, Nat.pow_succ, Nat.mul_assoc, Nat.add_zero]
  have := step (6 - m)
  rw [show m + (6 - m) = 6 by omega] at this
  rw [this, show 30 - 5 * m = 5 * (6 - m) by omega, Nat.pow_mul]
theorem zhp_d {b : Nat → Nat} {p m : Nat} (hl : ∀ j, j < m → zsml (b (p + j)) = true) : ∀ j, j < 6 → zhp b p m 6 / 32 ^ (5 - j) % 32 = if j < m then b (p + j) - 96 else 0 := by
  have h : ∀ k, (if k < m then b (p + k) - 96 else 0) < 32 := by
    intro k
    split
    next c => have := of_decide_eq_true (hl k c); omega
    next => omega
  have e : zhp b p m 6 = (((((0 * 32 + (if 0 < m then b (p + 0) - 96 else 0)) * 32 + (if 1 < m then b (p + 1) - 96 else 0)) * 32 + (if 2 < m then b (p + 2) - 96 else 0)) * 32 + (if 3 < m then b (p + 3) - 96 else 0)) * 32 + (if 4 < m then b (p + 4) - 96 else 0)) * 32 + (if 5 < m then b (p + 5) - 96 else 0) := rfl
  rw [e]
  have h0 := h 0
  have h1 := h 1
  have h2 := h 2
  have h3 := h 3
  have h4 := h 4
  have h5 := h 5
  intro j hj
  have hj : j = 0 ∨ j = 1 ∨ j = 2 ∨ j = 3 ∨ j = 4 ∨ j = 5 := by omega
  rcases hj with q | q | q | q | q | q <;> subst q <;> simp only [Nat.reducePow, Nat.reduceSub] <;> omega
theorem zpv_lt {b : Nat → Nat} {p : Nat} : ∀ m, (∀ j, j < m → zsml (b (p + j)) = true) → zpv b p m < 2 ^ 30 := by
  intro m
  induction m with
  | zero => intro _; show 0 < 2 ^ 30; omega
  | succ m ih =>
    intro hl
    have h1 := ih (fun j hj => hl j (by omega))
    have hb := of_decide_eq_true (hl m (by omega))
    show (if m < 6 then zpv b p m ||| ((b (p + m) - 96) * 2 ^ (5 * (5 - m))) else zpv b p m) < 2 ^ 30
    split
    next c =>
      refine Nat.or_lt_two_pow h1 ?_
      have h1 : b (p + m) - 96 ≤ 26 := by omega
      have h2 : 2 ^ (5 * (5 - m)) ≤ 2 ^ 25 := Nat.pow_le_pow_right (by decide) (by omega)
      calc (b (p + m) - 96) * 2 ^ (5 * (5 - m)) ≤ 26 * 2 ^ 25 := Nat.mul_le_mul h1 h2
        _ < 2 ^ 30 := by decide
    next => exact h1
theorem zWq_x {b : Nat → Nat} {p m k : Nat} (h6 : m ≤ 6) (hk : k < 20) (hl : ∀ j, j < m → zsml (b (p + j)) = true) : zWq b p m k ↔ zLw.getD k 0 = zpv b p m := by
  have hb := zw_b k hk
  obtain ⟨_, _, w6, _⟩ := zw_e k hk
  have dg := zhp_d (b := b) (p := p) hl
  rw [zhp_6 h6 hl] at dg
  have hB := zpv_lt (b := b) (p := p) m hl
  constructor
  · rintro ⟨e1, e2⟩
    have ed : ∀ j, j < 6 → zLw.getD k 0 / 32 ^ (5 - j) % 32 = zpv b p m / 32 ^ (5 - j) % 32 := by
      intro j hj
      rw [dg j hj]
      by_cases c : j < m
      · rw [if_pos c, e2 j c]; show zdg k j = _; omega
      · rw [if_neg c]; exact zw_0 k hk j hj (by omega)
    have d0 := ed 0 (by omega)
    have d1 := ed 1 (by omega)
    have d2 := ed 2 (by omega)
    have d3 := ed 3 (by omega)
    have d4 := ed 4 (by omega)
    have d5 := ed 5 (by omega)
    simp only [Nat.reducePow, Nat.reduceSub] at d0 d1 d2 d3 d4 d5 hb hB
    omega
  · intro e
    have ed : ∀ j, j < 6 → zdg k j = if j < m then b (p + j) - 96 else 0 := by
      intro j hj
      rw [← dg j hj, ← e]
      rfl
    have e1 : m = zwLn k := by
      by_cases c1 : m < zwLn k
      · have h1 := (zw_l k hk m c1).2.1
        rw [ed m (by omega), if_neg (by omega)] at h1
        omega
      · by_cases c2 : zwLn k < m
        · have h1 := zw_0 k hk (zwLn k) (by omega) (Nat.le_refl _)
          rw [ed (zwLn k) (by omega), if_pos c2] at h1
          have := of_decide_eq_true (hl (zwLn k) c2)
          omega
        · omega
    refine ⟨e1, fun j hj => ?_⟩
    have := of_decide_eq_true (hl j hj)
    rw [ed j (by omega), if_pos hj]
    omega
/-- which word of the language, 20: none -/
def zWx (x : Nat) : Nat → Nat → Nat
  | 0, _ => 20
  | f + 1, k => if zLw.getD k 0 = x then k else zWx x f (k + 1)
theorem zWx_b {x : Nat} : ∀ f k : Nat, k + f = 20 → zWx x f k ≤ 20 := by
  intro f
  induction f with
  | zero => intro k _; exact Nat.le_refl _
  | succ f ih =>
    intro k hk
    show (if zLw.getD k 0 = x then k else zWx x f (k + 1)) ≤ 20
    split
    · omega
    · exact ih (k + 1) (by omega)
theorem zKw_x {x : Nat} (hx : x < 2 ^ 30) : ∀ f k : Nat, k + f = 20 → zfd (fun k => nI (zLw.getD k 0)) (nI x) f k = if zWx x f k = 20 then -1 else nI (zWx x f k) := by
  intro f
  induction f with
  | zero => intro k _; rfl
  | succ f ih =>
    intro k hk
    have hb := zw_b k (by omega)
    show (if nI (zLw.getD k 0) = nI x then nI k else zfd (fun k => nI (zLw.getD k 0)) (nI x) f (k + 1)) = if (if zLw.getD k 0 = x then k else zWx x f (k + 1)) = 20 then -1 else nI (if zLw.getD k 0 = x then k else zWx x f (k + 1))
    by_cases c : zLw.getD k 0 = x
    · rw [if_pos (by rw [c]), if_pos c, if_neg (by omega)]
    · rw [if_neg (fun z => c ((nI_eq (by omega) (by omega)).mp z)), if_neg c]
      exact ih (k + 1) (by omega)
theorem ytWi_x {b : Nat → Nat} {p m : Nat} (h6 : m ≤ 6) (hl : ∀ j, j < m → zsml (b (p + j)) = true) : ∀ f k : Nat, k + f = 20 → ytWi b p m f k = if zWx (zpv b p m) f k = 20 then -1 else nI (zWx (zpv b p m) f k) := by
  intro f
  induction f with
  | zero => intro k _; rfl
  | succ f ih =>
    intro k hk
    show (if zWq b p m k then nI k else ytWi b p m f (k + 1)) = if (if zLw.getD k 0 = zpv b p m then k else zWx (zpv b p m) f (k + 1)) = 20 then -1 else nI (if zLw.getD k 0 = zpv b p m then k else zWx (zpv b p m) f (k + 1))
    have hq := zWq_x h6 (show k < 20 by omega) hl
    by_cases c : zLw.getD k 0 = zpv b p m
    · rw [if_pos (hq.mpr c), if_pos c, if_neg (by omega)]
    · rw [if_neg (fun z => c (hq.mp z)), if_neg c]
      exact ih (k + 1) (by omega)
theorem ytWi_7 {b : Nat → Nat} {p m : Nat} (h6 : 6 < m) : ∀ f k : Nat, k + f = 20 → ytWi b p m f k = -1 := by
  intro f
  induction f with
  | zero => intro k _; rfl
  | succ f ih =>
    intro k hk
    show (if zWq b p m k then nI k else ytWi b p m f (k + 1)) = -1
    have := (zw_e k (by omega)).2.2.1
    rw [if_neg (fun z => by have := z.1; omega)]
    exact ih (k + 1) (by omega)
section ZP
variable {d pl dr n : Nat} {cp cw rp : Option Nat} {b : Nat → Nat} {ia sa : Nat → Nat → Int32} {la : Nat → Nat → Int64} {K : Option Value → zHP → Prop}
theorem S_word {p m : Nat} (hm : p + m ≤ 700) (e22 : sa 127 22 = nI (p + m)) (e23 : sa 127 23 = nI p) (eb : ∀ j, p ≤ j → j < p + m → b j < 256 ∧ sa 128 j = nI (b j)) : zWM (d + 5) 135 [.ref 127] (sa, la, zRA pl dr cp cw rp) K = K (some (.int (ytWi b p m 20 0))) (sa, la, zRA pl dr cp cw rp) := by
  have h32 : ∀ x, 1 ≤ x → x ≤ 26 → ¬ nI (96 + x) = 32 := fun x h1 h2 z => by have := (nI_eq (a := 96 + x) (b := 32) (by omega) (by omega)).mp z; omega
  have nx : ∀ (r k : Nat) (a3 : Option Value), k + r = 20 → zWP (d + 5) 135 4 [some (.ref 127), some (.int (nI k)), some (.int (nI (zwSt k))), a3] [] (sa, la, zRA pl dr cp cw rp) K = K (some (.int (ytWi b p m r k))) (sa, la, zRA pl dr cp cw rp) := by
    intro r
    induction r with
    | zero =>
      intro k a3 hk
      obtain rfl : k = 20 := by omega
      rw [b135_4, zw_n, if_pos (by decide)]
      rfl
    | succ r ih =>
      intro k a3 hk
      obtain ⟨w1, w2, w3, w4⟩ := zw_e k (by omega)
      rw [b135_4, zw_n, if_neg (nI_nle1 (by omega) (by omega))]
      have sk : ∀ (q t : Nat) (i3 : Int32), t + q = zwLn k → zWP (d + 5) 135 97 [some (.ref 127), some (.int (nI k)), some (.int (nI (zwSt k + t))), some (.int i3)] [] (sa, la, zRA pl dr cp cw rp) K = K (some (.int (ytWi b p m r (k + 1)))) (sa, la, zRA pl dr cp cw rp) := by
        intro q
        induction q with
        | zero =>
          intro t i3 ht
          obtain rfl : t = zwLn k := by omega
          rw [b135_97, zw_n, zg (by omega) (by omega), zcln (by omega), w1, if_pos rfl, ns, ns, ← w2]
          exact ih (k + 1) _ (by omega)
        | succ q iq =>
          intro t i3 ht
          obtain ⟨u1, u2, u3⟩ := zw_l k (by omega) t (by omega)
          rw [b135_97, zw_n, zg (by omega) (by omega), zcln (by omega), u1, if_neg (h32 _ u2 u3), ns, Nat.add_assoc]
          exact iq (t + 1) i3 (by omega)
      have sk0 : ∀ i3 : Int32, zWP (d + 5) 135 97 [some (.ref 127), some (.int (nI k)), some (.int (nI (zwSt k))), some (.int i3)] [] (sa, la, zRA pl dr cp cw rp) K = K (some (.int (ytWi b p m r (k + 1)))) (sa, la, zRA pl dr cp cw rp) := fun i3 => sk (zwLn k) 0 i3 (by omega)
      have uW : ytWi b p m (r + 1) k = if zWq b p m k then nI k else ytWi b p m r (k + 1) := rfl
      have inn : ∀ (q j : Nat), j + q = zwLn k → j ≤ m → (∀ t, t < j → b (p + t) = 96 + zdg k t) → zWP (d + 5) 135 15 [some (.ref 127), some (.int (nI k)), some (.int (nI (zwSt k))), some (.int (nI j))] [] (sa, la, zRA pl dr cp cw rp) K = K (some (.int (ytWi b p m (r + 1) k))) (sa, la, zRA pl dr cp cw rp) := by
        intro q
        induction q with
        | zero =>
          intro j hj hjm hs
          obtain rfl : j = zwLn k := by omega
          rw [b135_15, nI_add, zw_n, zg (by omega) (by omega), zcln (by omega), w1, if_pos rfl, b135_69, nI_add, zw_n, zg (by omega) (by omega), zcln (by omega), w1, if_neg (fun y => y rfl), e23, e22, nI_add]
          by_cases c : zwLn k = m
          · rw [if_neg (fun y => y (by rw [c])), uW, if_pos ⟨c.symm, fun j hj => hs j (by omega)⟩]
          · rw [if_pos (fun z => c (by have := (nI_eq (by omega) (by omega)).mp z; omega)), uW, if_neg (fun y => c y.1.symm)]
            exact sk0 _
        | succ q iq =>
          intro j hj hjm hs
          obtain ⟨u1, u2, u3⟩ := zw_l k (by omega) j (by omega)
          have t69 : zWP (d + 5) 135 69 [some (.ref 127), some (.int (nI k)), some (.int (nI (zwSt k))), some (.int (nI j))] [] (sa, la, zRA pl dr cp cw rp) K = K (some (.int (ytWi b p m r (k + 1)))) (sa, la, zRA pl dr cp cw rp) := by
            rw [b135_69, nI_add, zw_n, zg (by omega) (by omega), zcln (by omega), u1, if_pos (h32 _ u2 u3)]
            exact sk0 _
          rw [b135_15, nI_add, zw_n, zg (by omega) (by omega), zcln (by omega), u1, if_neg (h32 _ u2 u3), e22, e23, nI_add]
          by_cases c : j < m
          · obtain ⟨q1, q2⟩ := eb (p + j) (by omega) (by omega)
            rw [if_neg (nI_nle1 (by omega) (by omega)), zg (by omega) (by omega), zcln (by omega), zg (by omega) (by omega), q2]
            by_cases cb : b (p + j) = 96 + zdg k j
            · rw [if_neg (fun y => y (by rw [cb])), ns]
              refine iq (j + 1) (by omega) (by omega) (fun t ht => ?_)
              by_cases e : t = j
              · rw [e]; exact cb
              · exact hs t (by omega)
            · rw [if_pos (fun z => cb ((nI_eq (by omega) (by omega)).mp z)), t69, uW, if_neg (fun y => cb (y.2 j c))]
          · rw [if_pos (nI_le1 (by omega) (by omega)), t69, uW, if_neg (fun y => by have := y.1; omega)]
      exact inn (zwLn k) 0 (by omega) (by omega) (fun t ht => by omega)
  rw [e135, b135_0]
  exact nx 20 0 none (by omega)
theorem S_nameR {p m : Nat} (h6 : m ≤ 6) (hm : p + m ≤ 700) (e22 : sa 127 22 = nI (p + m)) (e23 : sa 127 23 = nI p) (eb : ∀ j, p ≤ j → j < p + m → zsml (b j) = true ∧ sa 128 j = nI (b j)) (hK : K none (zu sa 127 25 (nI (zpv b p m)), la, zRA pl dr cp cw rp)) : zWM d 136 [.ref 127] (sa, la, zRA pl dr cp cw rp) K := by
  have hl : ∀ j, j < m → zsml (b (p + j)) = true := fun j hj => (eb (p + j) (by omega) (by omega)).1
  have lp : ∀ r k : Nat, k + r = 6 → zWP d 136 7 [some (.ref 127), some (.int (nI k))] [] (zu sa 127 25 (nI (zhp b p m k)), la, zRA pl dr cp cw rp) K := by
    intro r
    induction r with
    | zero =>
      intro k hk
      obtain rfl : k = 6 := by omega
      rw [b136_7, if_pos (by decide), zhp_6 h6 hl]
      exact hK
    | succ r ih =>
      intro k hk
      have hb := zhp_b (b := b) (p := p) hl k
      have hb2 : zhp b p m k < 2 ^ 25 := Nat.lt_of_lt_of_le hb (Nat.pow_le_pow_right (by decide) (by omega))
      have ev : ∀ y, y < 32 → (nI (zhp b p m k) <<< ((5 : Int32) &&& 31)) ||| nI y = nI (zhp b p m k * 32 + y) := by
        intro y hy
        rw [pk_shlN _ 5 (by decide) (by omega), nI_or]
        have := zor5 (a := zhp b p m k) (s := 0) hy
        simp only [Nat.zero_add, Nat.pow_zero, Nat.mul_one] at this
        rw [this]
      rw [b136_7, if_neg (z6le (by omega)), zu_k (by decide), zu_k (by decide), zu_eq, e22, e23, nI_add, zu_zu, zu_zu, ns]
      by_cases c : k < m
      · obtain ⟨q1, q2⟩ := eb (p + k) (by omega) (by omega)
        have q1 := of_decide_eq_true q1
        have e1 : nI (b (p + k)) - 97 + 1 = nI (b (p + k) - 96) := by rw [show (97 : Int32) = nI 97 from rfl, pk_sub (by omega), ns]; congr 1; omega
        rw [if_neg (nI_nle1 (by omega) (by omega)), zg (by omega) (by omega), zcln (by omega), zu_o (by decide), q2, e1, ev _ (by omega)]
        have := ih (k + 1) (by omega)
        have u : zhp b p m (k + 1) = zhp b p m k * 32 + (b (p + k) - 96) := by show zhp b p m k * 32 + (if k < m then b (p + k) - 96 else 0) = _; rw [if_pos c]
        rw [u] at this
        exact this
      · rw [if_pos (nI_le1 (by omega) (by omega)), show (0 : Int32) = nI 0 from rfl, ev 0 (by omega)]
        have := ih (k + 1) (by omega)
        have u : zhp b p m (k + 1) = zhp b p m k * 32 + 0 := by show zhp b p m k * 32 + (if k < m then b (p + k) - 96 else 0) = _; rw [if_neg c]
        rw [u] at this
        exact this
  rw [e136, b136_0]
  exact lp 6 0 (by omega)
end ZP
