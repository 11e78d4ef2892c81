/-! worlds that are well -/
def zcnt (P : Nat → Bool) : Nat → Nat
  | 0 => 0
  | n + 1 => if P n = true then zcnt P n + 1 else zcnt P n
theorem zcnt_le (P : Nat → Bool) : ∀ n : Nat, zcnt P n ≤ n := by
  intro n
  induction n with
  | zero => exact Nat.le_refl _
  | succ n ih => unfold zcnt; split <;> omega
theorem zcnt_ext {P Q : Nat → Bool} : ∀ n : Nat, (∀ i, i < n → P i = Q i) → zcnt P n = zcnt Q n := by
  intro n
  induction n with
  | zero => intro _; rfl
  | succ n ih =>
    intro h
    unfold zcnt
    rw [h n (by omega), ih (fun i hi => h i (by omega))]
theorem zcnt_up {P Q : Nat → Bool} {k : Nat} (h : ∀ i, i ≠ k → P i = Q i) (h0 : P k = false) (h1 : Q k = true) : ∀ n : Nat, k < n → zcnt Q n = zcnt P n + 1 := by
  intro n
  induction n with
  | zero => intro hk; omega
  | succ n ih =>
    intro hk
    unfold zcnt
    by_cases e : n = k
    · subst e
      rw [h0, h1, if_pos rfl, if_neg (by decide), zcnt_ext n (fun i hi => h i (by omega))]
    · rw [h n e, ih (by omega)]
      split <;> rfl
theorem zcnt_0 (P : Nat → Bool) : ∀ n : Nat, (∀ i, i < n → P i = false) → zcnt P n = 0 := by
  intro n
  induction n with
  | zero => intro _; rfl
  | succ n ih =>
    intro h
    unfold zcnt
    rw [h n (by omega), if_neg (by decide), ih (fun i hi => h i (by omega))]
theorem zIeq {x : Int32} {c : Nat} (h : x.toInt = (c : Int)) (hc : c < 2 ^ 31) : x = nI c := Int32.toInt_inj.mp (by rw [h, nI_toInt hc])
theorem zbmod {x : Int} (h1 : -2147483648 ≤ x) (h2 : x < 2147483648) : x.bmod (2 ^ 32) = x := by
  apply Int.bmod_eq_of_le
  · show -((4294967296 : Int) / 2) ≤ x
    omega
  · show x < ((4294967296 : Int) + 1) / 2
    omega
theorem zi_add {a b : Int32} (h1 : -2147483648 ≤ a.toInt + b.toInt) (h2 : a.toInt + b.toInt < 2147483648) : (a + b).toInt = a.toInt + b.toInt := by rw [Int32.toInt_add, zbmod h1 h2]
theorem zi_sub {a b : Int32} (h1 : -2147483648 ≤ a.toInt - b.toInt) (h2 : a.toInt - b.toInt < 2147483648) : (a - b).toInt = a.toInt - b.toInt := by rw [Int32.toInt_sub, zbmod h1 h2]
theorem zi_mul {a b : Int32} (h1 : -2147483648 ≤ a.toInt * b.toInt) (h2 : a.toInt * b.toInt < 2147483648) : (a * b).toInt = a.toInt * b.toInt := by rw [Int32.toInt_mul, zbmod h1 h2]
theorem zi_div {a b : Int32} (h1 : -2147483648 ≤ a.toInt.tdiv b.toInt) (h2 : a.toInt.tdiv b.toInt < 2147483648) : (a / b).toInt = a.toInt.tdiv b.toInt := by rw [Int32.toInt_div, zbmod h1 h2]
/-- a trait goes a part of its way -/
theorem zturn {a b t : Nat} (ha : a ≤ 99000) (hb : b < 100) (ht : t ≤ 1000) : ∃ c, c ≤ 99000 ∧ nI a + (1000 * nI b - nI a) * nI t / 1000 = nI c := by
  have eb : (1000 * nI b : Int32) = nI (1000 * b) := by rw [show (1000 : Int32) = nI 1000 from rfl, pk_mul]
  have e1 : (1000 * nI b - nI a).toInt = ((1000 * b : Nat) : Int) - a := by
    rw [eb, pk_sub_toInt (by omega) (by omega)]
  have et : (nI t).toInt = (t : Int) := nI_toInt (by omega)
  have ea : (nI a).toInt = (a : Int) := nI_toInt (by omega)
  have ek : (1000 : Int32).toInt = 1000 := by decide
  have t0 : (0 : Int) ≤ t := by omega
  have t1 : (t : Int) ≤ 1000 := by omega
  rcases Nat.le_total a (1000 * b) with h | h
  · obtain ⟨x, hx⟩ : ∃ x : Nat, x = 1000 * b - a := ⟨_, rfl⟩
    have ex : ((1000 * b : Nat) : Int) - a = (x : Int) := by omega
    have hm : x * t ≤ x * 1000 := Nat.mul_le_mul_left x ht
    have e2 : ((1000 * nI b - nI a) * nI t).toInt = ((x * t : Nat) : Int) := by
      rw [zi_mul] <;> rw [e1, et, ex, ← Int.natCast_mul]
      · omega
      · omega
    have hd : (x * t) / 1000 ≤ x := by omega
    have e3 : ((1000 * nI b - nI a) * nI t / 1000).toInt = ((x * t / 1000 : Nat) : Int) := by
      have q : (((x * t : Nat) : Int)).tdiv 1000 = ((x * t / 1000 : Nat) : Int) := rfl
      rw [zi_div] <;> rw [e2, ek, q]
      · omega
      · omega
    refine ⟨a + x * t / 1000, by omega, ?_⟩
    apply zIeq
    · rw [zi_add] <;> rw [ea, e3] <;> omega
    · omega
  · obtain ⟨x, hx⟩ : ∃ x : Nat, x = a - 1000 * b := ⟨_, rfl⟩
    have ex : ((1000 * b : Nat) : Int) - a = -(x : Int) := by omega
    have hm : x * t ≤ x * 1000 := Nat.mul_le_mul_left x ht
    have em : -(x : Int) * (t : Int) = -((x * t : Nat) : Int) := by rw [Int.neg_mul, ← Int.natCast_mul]
    have e2 : ((1000 * nI b - nI a) * nI t).toInt = -((x * t : Nat) : Int) := by
      rw [zi_mul] <;> rw [e1, et, ex, em]
      · omega
      · omega
    have hd : (x * t) / 1000 ≤ x := by omega
    have e3 : ((1000 * nI b - nI a) * nI t / 1000).toInt = -((x * t / 1000 : Nat) : Int) := by
      have q : (-((x * t : Nat) : Int)).tdiv 1000 = -((x * t / 1000 : Nat) : Int) := by rw [Int.neg_tdiv]; rfl
      rw [zi_div] <;> rw [e2, ek, q]
      · omega
      · omega
    refine ⟨a - x * t / 1000, by omega, ?_⟩
    apply zIeq
    · rw [zi_add] <;> rw [ea, e3] <;> omega
    · omega
theorem zlesson {a b : Nat} (ha : a ≤ 99000) (hb : b < 100) : ∃ c, c ≤ 99000 ∧ nI a + (1000 * nI b - nI a) / 2 = nI c ∧ (a ≤ 1000 * b → c = a + (1000 * b - a) / 2) ∧ (1000 * b ≤ a → c = a - (a - 1000 * b) / 2) := by
  have eb : (1000 * nI b : Int32) = nI (1000 * b) := by rw [show (1000 : Int32) = nI 1000 from rfl, pk_mul]
  have e1 : (1000 * nI b - nI a).toInt = ((1000 * b : Nat) : Int) - a := by
    rw [eb, pk_sub_toInt (by omega) (by omega)]
  have ea : (nI a).toInt = (a : Int) := nI_toInt (by omega)
  have ek : (2 : Int32).toInt = 2 := by decide
  rcases Nat.le_total a (1000 * b) with h | h
  · obtain ⟨x, hx⟩ : ∃ x : Nat, x = 1000 * b - a := ⟨_, rfl⟩
    have ex : ((1000 * b : Nat) : Int) - a = (x : Int) := by omega
    have e3 : ((1000 * nI b - nI a) / 2).toInt = ((x / 2 : Nat) : Int) := by
      have q : ((x : Int)).tdiv 2 = ((x / 2 : Nat) : Int) := rfl
      rw [zi_div] <;> rw [e1, ek, ex, q] <;> omega
    refine ⟨a + x / 2, by omega, ?_, by omega, by omega⟩
    apply zIeq
    · rw [zi_add] <;> rw [ea, e3] <;> omega
    · omega
  · obtain ⟨x, hx⟩ : ∃ x : Nat, x = a - 1000 * b := ⟨_, rfl⟩
    have ex : ((1000 * b : Nat) : Int) - a = -(x : Int) := by omega
    have e3 : ((1000 * nI b - nI a) / 2).toInt = -((x / 2 : Nat) : Int) := by
      have q : (-(x : Int)).tdiv 2 = -((x / 2 : Nat) : Int) := by rw [Int.neg_tdiv]; rfl
      rw [zi_div] <;> rw [e1, ek, ex, q] <;> omega
    refine ⟨a - x / 2, by omega, ?_, by omega, by omega⟩
    apply zIeq
    · rw [zi_add] <;> rw [ea, e3] <;> omega
    · omega
theorem zlcl_b (v : Int64) : ∃ x, x ≤ 1000 ∧ zlcl 1000 v = nI x := by
  unfold zlcl
  by_cases h : v < 1000
  · rw [if_pos h]
    by_cases h0 : v < 0
    · rw [if_pos h0]; exact ⟨0, by omega, rfl⟩
    · rw [if_neg h0]
      obtain ⟨k, hk, rfl⟩ := pk_lOf h0
      refine ⟨k, ?_, lN_i k⟩
      have := (pk_lLT hk (b := 1000) (by omega)).mp h
      omega
  · rw [if_neg h, if_neg (by decide)]
    exact ⟨1000, by omega, rfl⟩
theorem zBnd_1 {p W : Nat → Nat → Int32} {o : Nat → Int32} {h m : Nat} {pr : Int32} (ho : ∃ a, a ≤ 100 ∧ o 4 = nI a) : ∃ x, x ≤ 1000 ∧ zBnd p o W 1 h m pr = nI x := by
  unfold zBnd
  rw [if_neg (fun q => q.elim (fun z => absurd z.1 (by decide)) (fun z => absurd z.1 (by decide)))]
  split
  · obtain ⟨a, ha, e⟩ := ho
    rw [if_neg (by decide), if_pos rfl, e]
    exact ⟨10 * a, by omega, by rw [show (10 : Int32) = nI 10 from rfl, pk_mul]⟩
  · exact zlcl_b _
/-- day, people and hands are well -/
def zWa (N D : Nat) (W : Nat → Nat → Int32) : Prop := W 0 0 = nI D ∧ zTd N W ∧ (∀ h, N ≤ h → h < 6 → W 1 h = 0 ∧ W 3 h = -2) ∧ (∀ i, i < 3 * N → ∃ a, a ≤ 99000 ∧ W 2 i = nI a)
/-- the letters are well, those of the day up to the i-th -/
def zWl (p : Nat → Nat → Int32) (T D i : Nat) (W : Nat → Nat → Int32) : Prop :=
  (∀ k, k < 12 → (W 6 k = 0 ∨ ((W 6 k = 1 ∨ W 6 k = 2) ∧ k < T ∧ ∃ t, p (16 + k) 2 = nI t ∧ (t < D ∨ t = D ∧ k < i))) ∧ (W 7 k = 0 ∨ W 7 k = 1 ∧ ¬ W 6 k = 0)) ∧
  W 0 11 = nI (zcnt (fun k => decide (W 6 k = 2)) 12) ∧ W 0 12 = nI (zcnt (fun k => decide (¬ W 7 k = 0)) 12)
def zWc (p : Nat → Nat → Int32) (D i : Nat) (W : Nat → Nat → Int32) : Prop :=
  (∀ k, k < 12 → (W 8 k = 0 ∨ (W 8 k = 1 ∧ ¬ W 6 k = 0 ∧ ∃ t, p (16 + k) 2 = nI t ∧ (t < D ∨ t = D ∧ k < i)))) ∧
  W 0 13 = nI (zcnt (fun k => decide (¬ W 8 k = 0)) 12)
def zWf (p : Nat → Nat → Int32) (N T D : Nat) (W : Nat → Nat → Int32) : Prop := zWa N D W ∧ zWl p T D 0 W ∧ zWc p D 0 W
section ZP
variable {N L T D : Nat} {p W V : Nat → Nat → Int32} {o : Nat → Int32}
theorem zWl_g {i : Nat} (h6 : V 6 = W 6) (h7 : V 7 = W 7) (h11 : V 0 11 = W 0 11) (h12 : V 0 12 = W 0 12) (h : zWl p T D i W) : zWl p T D i V := by
  unfold zWl
  rw [h6, h7, h11, h12]
  exact h
theorem zWc_g {i : Nat} (h6 : ∀ k, k < 12 → ¬ W 6 k = 0 → ¬ V 6 k = 0) (h8 : V 8 = W 8) (h13 : V 0 13 = W 0 13) (h : zWc p D i W) : zWc p D i V := by
  unfold zWc
  rw [h8, h13]
  refine ⟨fun k hk => ?_, h.2⟩
  rcases h.1 k hk with q | ⟨q1, q2, q3⟩
  · exact Or.inl q
  · exact Or.inr ⟨q1, h6 k hk q2, q3⟩
theorem zWl_i {i j : Nat} (hij : i ≤ j) (h : zWl p T D i W) : zWl p T D j W := by
  refine ⟨fun k hk => ?_, h.2⟩
  obtain ⟨q, q7⟩ := h.1 k hk
  refine ⟨?_, q7⟩
  rcases q with q | ⟨q1, q2, t, q3, q4⟩
  · exact Or.inl q
  · exact Or.inr ⟨q1, q2, t, q3, by omega⟩
theorem zWl_d {i : Nat} (h : zWl p T D i W) : zWl p T (D + 1) 0 W := by
  refine ⟨fun k hk => ?_, h.2⟩
  obtain ⟨q, q7⟩ := h.1 k hk
  refine ⟨?_, q7⟩
  rcases q with q | ⟨q1, q2, t, q3, q4⟩
  · exact Or.inl q
  · exact Or.inr ⟨q1, q2, t, q3, by omega⟩
theorem zWc_i {i j : Nat} (hij : i ≤ j) (h : zWc p D i W) : zWc p D j W := by
  refine ⟨fun k hk => ?_, h.2⟩
  rcases h.1 k hk with q | ⟨q1, q2, t, q3, q4⟩
  · exact Or.inl q
  · exact Or.inr ⟨q1, q2, t, q3, by omega⟩
theorem zWc_d {i : Nat} (h : zWc p D i W) : zWc p (D + 1) 0 W := by
  refine ⟨fun k hk => ?_, h.2⟩
  rcases h.1 k hk with q | ⟨q1, q2, t, q3, q4⟩
  · exact Or.inl q
  · exact Or.inr ⟨q1, q2, t, q3, by omega⟩
theorem zOver_at {h m g j : Nat} {days rent : Int32} (hg : g ≠ 1) : zOver W h m days rent g j = if g = 4 ∧ j = h then days else if g = 3 ∧ j = h then nI m else W g j := by
  unfold zOver
  rw [zu_o hg, zu_o hg, zu_at, zu_at]
theorem zOver_1 {h m j : Nat} {days rent : Int32} (hh : j ≠ h) (hm : j ≠ m) : zOver W h m days rent 1 j = W 1 j := by
  unfold zOver
  rw [zu_k hh, zu_k hm, zu_o (by decide), zu_o (by decide)]
theorem zWa_over {h m n : Nat} {rent : Int32} (hh : h < N) (hm : m < N) (hn0 : 0 < n) (hn : n < 100) (hW : zWa N D W) : zWa N D (zOver W h m (nI n) rent) := by
  obtain ⟨h0, hT, hb, ht⟩ := hW
  refine ⟨?_, ?_, ?_, ?_⟩
  · rw [zOver_at (by decide), if_neg (by omega), if_neg (by omega)]; exact h0
  · intro q hq
    rw [zOver_at (by decide), zOver_at (by decide), if_neg (by omega)]
    by_cases e : q = h
    · rw [if_pos ⟨rfl, e⟩, if_pos ⟨rfl, e⟩]
      exact Or.inr ⟨m, n, hm, hn0, hn, rfl, rfl⟩
    · rw [if_neg (fun z => e z.2), if_neg (fun z => e z.2), if_neg (by omega)]
      exact hT q hq
  · intro q hq hq6
    rw [zOver_1 (by omega) (by omega), zOver_at (by decide), if_neg (by omega), if_neg (by omega)]
    exact hb q hq hq6
  · intro q hq
    rw [zOver_at (by decide), if_neg (by omega), if_neg (by omega)]
    exact ht q hq
theorem zOver_g {h m g : Nat} {days rent : Int32} (hg : g ≠ 1) (h3 : g ≠ 3) (h4 : g ≠ 4) : zOver W h m days rent g = W g := by
  funext j
  rw [zOver_at hg, if_neg (by omega), if_neg (by omega)]
theorem zWf_over {h m n : Nat} {rent : Int32} (hh : h < N) (hm : m < N) (hn0 : 0 < n) (hn : n < 100) (hW : zWf p N T D W) : zWf p N T D (zOver W h m (nI n) rent) :=
  ⟨zWa_over hh hm hn0 hn hW.1, zWl_g (zOver_g (by decide) (by decide) (by decide)) (zOver_g (by decide) (by decide) (by decide)) (by rw [zOver_g (by decide) (by decide) (by decide)]) (by rw [zOver_g (by decide) (by decide) (by decide)]) hW.2.1, zWc_g (fun k _ q => by rw [zOver_g (by decide) (by decide) (by decide)]; exact q) (zOver_g (by decide) (by decide) (by decide)) (by rw [zOver_g (by decide) (by decide) (by decide)]) hW.2.2⟩
theorem zWf_lease (hk : zPk p N L T) {k : Nat} (hkL : k < L) (hW : zWf p N T D W) : zWf p N T D (zLease p o k W) := by
  obtain ⟨_, hN, _, _, _, _, hl, _⟩ := hk
  obtain ⟨h, m, t, n, c, hh, hm, hne, ht, hn0, hn, hc, e0, e1, e2, e3, e4⟩ := hl k hkL
  unfold zLease
  split
  · exact hW
  · split
    · split
      · rw [e0, e1, e3, zct_n (by omega), zct_n (by omega)]
        exact zWf_over hh hm hn0 hn hW
      · obtain ⟨⟨h0, hT, hb, htr⟩, hl, hc⟩ := hW
        refine ⟨⟨by rw [zu_k (by decide)]; exact h0, zTd_34 (zu_o (by decide)) (zu_o (by decide)) hT, fun q hq hq6 => by rw [zu_o (by decide), zu_o (by decide)]; exact hb q hq hq6, fun q hq => by rw [zu_o (by decide)]; exact htr q hq⟩, zWl_g (zu_o (by decide)) (zu_o (by decide)) (zu_k (by decide)) (zu_k (by decide)) hl, zWc_g (fun k _ q => by rw [zu_o (by decide)]; exact q) (zu_o (by decide)) (zu_k (by decide)) hc⟩
    · exact hW
theorem zit_wf {f : Nat → (Nat → Nat → Int32) → Nat → Nat → Int32} {n : Nat} (P : Nat → (Nat → Nat → Int32) → Prop) (hf : ∀ k V, k < n → P k V → P (k + 1) (f k V)) (hW : P 0 W) : P n (zit f n W) := by
  have : ∀ i, i ≤ n → P i (zit f i W) := by
    intro i
    induction i with
    | zero => intro _; exact hW
    | succ i ih => intro hi; exact hf i _ (by omega) (ih (by omega))
  exact this n (by omega)
theorem zWrite_g {k g : Nat} (hg : g ≠ 9) (h0 : g ≠ 0) (h6 : g ≠ 6) (h7 : g ≠ 7) : zWrite p k W g = W g := by
  funext j
  rw [zWrite_at hg, if_neg (by omega), if_neg (by omega), if_neg (by omega), if_neg (by omega)]
theorem zWrite_0 {k j : Nat} (h1 : j ≠ 11) (h2 : j ≠ 12) : zWrite p k W 0 j = W 0 j := by
  rw [zWrite_at (by decide), if_neg (by omega), if_neg (by omega), if_neg (by omega), if_neg (by omega)]
theorem zWrite_6k {k j : Nat} (h : j ≠ k) : zWrite p k W 6 j = W 6 j := by
  rw [zWrite_at (by decide), if_neg (by omega), if_neg (by omega), if_neg (by omega), if_neg (by omega)]
theorem zWrite_7 {k j : Nat} : zWrite p k W 7 j = if j = k ∧ zany (zClP p W k) k = true then 1 else W 7 j := by
  rw [zWrite_at (by decide), if_neg (by omega), if_neg (by omega)]
  by_cases h : j = k ∧ zany (zClP p W k) k = true
  · rw [if_pos ⟨rfl, h⟩, if_pos h]
  · rw [if_neg (fun z => h z.2), if_neg (fun z => by omega), if_neg h]
theorem zWrite_12 {k : Nat} : zWrite p k W 0 12 = if zany (zClP p W k) k = true then W 0 12 + 1 else W 0 12 := by
  rw [zWrite_at (by decide), if_neg (by omega), if_neg (by omega), if_neg (by omega)]
  by_cases h : zany (zClP p W k) k = true
  · rw [if_pos ⟨rfl, rfl, h⟩, if_pos h]
  · rw [if_neg (fun z => h z.2.2), if_neg h]
theorem zWl_let (hk : zPk p N L T) {k : Nat} (hkT : k < T) (hD : D < 20000) (h0 : W 0 0 = nI D) (hW : zWl p T D k W) : zWl p T D (k + 1) (zLet p o k W) := by
  obtain ⟨_, hN, _, _, _, hT, _, hl, _⟩ := hk
  obtain ⟨b, h, t, hb, hh, ht, e0, e1, e2⟩ := hl k hkT
  unfold zLet
  split
  · exact zWl_i (by omega) hW
  · split
    · exact zWl_i (by omega) hW
    · next c1 c2 =>
      have c1 : p (16 + k) 2 = W 0 0 := Classical.not_not.mp c1
      have htD : t = D := by rw [e2, h0] at c1; exact (nI_eq (by omega) (by omega)).mp c1
      obtain ⟨hl, h11, h12⟩ := hW
      have z6 : W 6 k = 0 := by
        rcases (hl k (by omega)).1 with q | ⟨q1, q2, t2, q3, q4⟩
        · exact q
        · rw [e2] at q3
          have : t = t2 := by
            rcases q4 with q4 | q4
            · exact (nI_eq (by omega) (by omega)).mp q3
            · exact (nI_eq (by omega) (by omega)).mp q3
          omega
      have z7 : W 7 k = 0 := by
        rcases (hl k (by omega)).2 with q | ⟨q1, q2⟩
        · exact q
        · exact absurd z6 q2
      have n6 : ¬ zWrite p k W 6 k = 0 := by rw [zWrite_6]; split <;> decide
      refine ⟨fun j hj => ?_, ?_, ?_⟩
      · by_cases e : j = k
        · subst e
          refine ⟨Or.inr ⟨?_, hkT, t, e2, by omega⟩, ?_⟩
          · rw [zWrite_6]; split
            · exact Or.inl rfl
            · exact Or.inr rfl
          · rw [zWrite_7]
            by_cases h : zany (zClP p W j) j = true
            · rw [if_pos ⟨rfl, h⟩]; exact Or.inr ⟨rfl, n6⟩
            · rw [if_neg (fun z => h z.2)]; exact Or.inl z7
        · rw [zWrite_6k e, zWrite_7, if_neg (fun z => e z.1)]
          obtain ⟨q, q7⟩ := hl j hj
          refine ⟨?_, q7⟩
          rcases q with q | ⟨q1, q2, t, q3, q4⟩
          · exact Or.inl q
          · exact Or.inr ⟨q1, q2, t, q3, by omega⟩
      · rw [zWrite_11, h11]
        by_cases hd : zHd W (zct (p (16 + k) 1)) = p (16 + k) 0
        · rw [if_pos hd]
          congr 1
          apply zcnt_ext
          intro i hi
          by_cases e : i = k
          · subst e; rw [zWrite_6, if_pos hd, z6]; rfl
          · rw [zWrite_6k e]
        · rw [if_neg hd, ns]
          congr 1
          symm
          refine zcnt_up (k := k) (fun i e => ?_) ?_ ?_ 12 (by omega)
          · rw [zWrite_6k e]
          · rw [z6]; rfl
          · rw [zWrite_6, if_neg hd]; rfl
      · rw [zWrite_12, h12]
        by_cases hc : zany (zClP p W k) k = true
        · rw [if_pos hc, ns]
          congr 1
          symm
          refine zcnt_up (k := k) (fun i e => ?_) ?_ ?_ 12 (by omega)
          · rw [zWrite_7, if_neg (fun z => e z.1)]
          · rw [z7]; rfl
          · rw [zWrite_7, if_pos ⟨rfl, hc⟩]; rfl
        · rw [if_neg hc]
          congr 1
          apply zcnt_ext
          intro i hi
          rw [zWrite_7, if_neg (fun z => hc z.2)]
theorem zWa_let {k : Nat} (hW : zWa N D W) : zWa N D (zLet p o k W) := by
  unfold zLet
  split
  · exact hW
  · split
    · exact hW
    · obtain ⟨h0, hT, hb, ht⟩ := hW
      have q1 : zWrite p k W 1 = W 1 := zWrite_g (by decide) (by decide) (by decide) (by decide)
      have q2 : zWrite p k W 2 = W 2 := zWrite_g (by decide) (by decide) (by decide) (by decide)
      have q3 : zWrite p k W 3 = W 3 := zWrite_g (by decide) (by decide) (by decide) (by decide)
      have q4 : zWrite p k W 4 = W 4 := zWrite_g (by decide) (by decide) (by decide) (by decide)
      exact ⟨by rw [zWrite_00]; exact h0, zTd_34 q3 q4 hT, by rw [q1, q3]; exact hb, by rw [q2]; exact ht⟩
theorem zWc_let {k i : Nat} (hW : zWc p D i W) : zWc p D i (zLet p o k W) := by
  unfold zLet
  split
  · exact hW
  · split
    · exact hW
    · refine zWc_g (fun j _ q => ?_) (zWrite_g (by decide) (by decide) (by decide) (by decide)) (zWrite_0 (by decide) (by decide)) hW
      by_cases e : j = k
      · subst e; rw [zWrite_6]; split <;> decide
      · rw [zWrite_6k e]; exact q
theorem zFind_at {k g j : Nat} (hg : g ≠ 1) : zFind p o k W g j = if p (16 + k) 2 = W 0 0 ∧ W 6 k = 2 then (if g = 0 ∧ j = 13 then W 0 13 + 1 else if g = 8 ∧ j = k then 1 else W g j) else W g j := by
  unfold zFind
  by_cases c1 : p (16 + k) 2 = W 0 0
  · rw [if_neg (fun q => q c1)]
    by_cases c2 : W 6 k = 2
    · rw [if_neg (fun q => q c2), zu_o hg, if_pos (show p (16 + k) 2 = W 0 0 ∧ W 6 k = 2 from ⟨c1, c2⟩)]
      unfold zFn1
      rw [zu_at, zu_at, zu_at, if_neg (show ¬ (0 = 8 ∧ 13 = k) by omega)]
    · rw [if_pos c2, if_neg (fun z => c2 z.2)]
  · rw [if_pos c1, if_neg (fun z => c1 z.1)]
theorem zFind_g {k g : Nat} (hg : g ≠ 1) (h0 : g ≠ 0) (h8 : g ≠ 8) : zFind p o k W g = W g := by
  funext j
  rw [zFind_at hg, if_neg (show ¬ (g = 0 ∧ j = 13) by omega), if_neg (show ¬ (g = 8 ∧ j = k) by omega)]
  split <;> rfl
theorem zFind_0 {k j : Nat} (hj : j ≠ 13) : zFind p o k W 0 j = W 0 j := by
  rw [zFind_at (by decide), if_neg (show ¬ (0 = 0 ∧ j = 13) by omega), if_neg (show ¬ (0 = 8 ∧ j = k) by omega)]
  split <;> rfl
theorem zWa_find (hk : zPk p N L T) {k : Nat} (hkT : k < T) (hW : zWa N D W) : zWa N D (zFind p o k W) := by
  obtain ⟨_, hN, _, _, _, hT6, _, hl, _⟩ := hk
  obtain ⟨b, h, t, hb, hh, ht, e0, e1, e2⟩ := hl k hkT
  obtain ⟨h0, hT, hbb, htr⟩ := hW
  have q2 : zFind p o k W 2 = W 2 := zFind_g (by decide) (by decide) (by decide)
  have q3 : zFind p o k W 3 = W 3 := zFind_g (by decide) (by decide) (by decide)
  have q4 : zFind p o k W 4 = W 4 := zFind_g (by decide) (by decide) (by decide)
  refine ⟨by rw [zFind_0 (by decide)]; exact h0, zTd_34 q3 q4 hT, fun q hq hq6 => ?_, by rw [q2]; exact htr⟩
  rw [q3]
  refine ⟨?_, (hbb q hq hq6).2⟩
  rw [← (hbb q hq hq6).1]
  unfold zFind
  rw [e0, zct_n (by omega)]
  split
  · rfl
  · split
    · rfl
    · rw [zu_k (by omega)]
      unfold zFn1
      rw [zu_o (by decide), zu_o (by decide)]
theorem zWc_find (hk : zPk p N L T) {k : Nat} (hkT : k < T) (hD : D < 20000) (h0 : W 0 0 = nI D) (hW : zWc p D k W) : zWc p D (k + 1) (zFind p o k W) := by
  obtain ⟨_, hN, _, _, _, hT, _, hl, _⟩ := hk
  obtain ⟨b, h, t, hb, hh, ht, e0, e1, e2⟩ := hl k hkT
  have q6 : zFind p o k W 6 = W 6 := zFind_g (by decide) (by decide) (by decide)
  by_cases c : p (16 + k) 2 = W 0 0 ∧ W 6 k = 2
  · have q8 : ∀ j, zFind p o k W 8 j = if j = k then 1 else W 8 j := by
      intro j
      rw [zFind_at (by decide), if_pos c, if_neg (by omega)]
      by_cases e : j = k
      · rw [if_pos ⟨rfl, e⟩, if_pos e]
      · rw [if_neg (fun z => e z.2), if_neg e]
    have q13 : zFind p o k W 0 13 = W 0 13 + 1 := by rw [zFind_at (by decide), if_pos c, if_pos ⟨rfl, rfl⟩]
    have htD : t = D := by have := c.1; rw [e2, h0] at this; exact (nI_eq (by omega) (by omega)).mp this
    obtain ⟨hl, h13⟩ := hW
    have z8 : W 8 k = 0 := by
      rcases hl k (by omega) with q | ⟨q1, q2, t2, q3, q4⟩
      · exact q
      · rw [e2] at q3
        have : t = t2 := by
          rcases q4 with q4 | q4
          · exact (nI_eq (by omega) (by omega)).mp q3
          · exact (nI_eq (by omega) (by omega)).mp q3
        omega
    refine ⟨fun j hj => ?_, ?_⟩
    · rw [q8, q6]
      by_cases e : j = k
      · subst e
        rw [if_pos rfl]
        exact Or.inr ⟨rfl, by rw [c.2]; decide, t, e2, by omega⟩
      · rw [if_neg e]
        rcases hl j hj with q | ⟨q1, q2, t, q3, q4⟩
        · exact Or.inl q
        · exact Or.inr ⟨q1, q2, t, q3, by omega⟩
    · rw [q13, h13, ns]
      congr 1
      symm
      refine zcnt_up (k := k) (fun i e => ?_) ?_ ?_ 12 (by omega)
      · rw [q8, if_neg e]
      · rw [z8]; rfl
      · rw [q8, if_pos rfl]; rfl
  · refine zWc_i (by omega) (zWc_g (W := W) (fun j _ q => by rw [q6]; exact q) ?_ ?_ hW)
    · funext j; rw [zFind_at (by decide), if_neg c]
    · rw [zFind_at (by decide), if_neg c]
theorem zBk1_at {h t j g i : Nat} {turn : Int32} : zBk1 p h t turn j W g i = if g = 2 ∧ i = 3 * h + j then W 2 (3 * h + j) + (1000 * p 2 (3 * t + j) - W 2 (3 * h + j)) * turn / 1000 else W g i := by
  unfold zBk1
  rw [zu_at]
theorem zBack_g {h g : Nat} (h2 : g ≠ 2) (h3 : g ≠ 3) (h4 : g ≠ 4) (h5 : g ≠ 5) : zBack p o h W g = W g := by
  unfold zBack zBk2
  rw [zu_o h5, zu_o h4, zu_o h3]
  show zBk1 _ _ _ _ 2 (zBk1 _ _ _ _ 1 (zBk1 _ _ _ _ 0 W)) g = _
  unfold zBk1
  rw [zu_o h2, zu_o h2, zu_o h2]
theorem zBk1_tr {h t : Nat} {turn : Int32} {n : Nat} (htr : ∀ i, i < 3 * N → ∃ a, a < 100 ∧ p 2 i = nI a) (ht : t < N) (hn : n ≤ 1000) (en : turn = nI n) {j : Nat} (hj : j < 3) (hW : ∀ i, i < 3 * N → ∃ a, a ≤ 99000 ∧ W 2 i = nI a) : ∀ i, i < 3 * N → ∃ a, a ≤ 99000 ∧ zBk1 p h t turn j W 2 i = nI a := by
  intro i hi
  rw [zBk1_at]
  by_cases e : i = 3 * h + j
  · rw [if_pos ⟨rfl, e⟩]
    obtain ⟨a, ha, ea⟩ := hW i hi
    obtain ⟨b, hb, eb⟩ := htr (3 * t + j) (by omega)
    rw [← e, ea, eb, en]
    exact zturn ha hb hn
  · rw [if_neg (fun z => e z.2)]
    exact hW i hi
theorem zWa_back (hk : zPk p N L T) (ho : ∃ a, a ≤ 100 ∧ o 4 = nI a) {h t : Nat} (hh : h < N) (ht : t < N) (et : W 3 h = nI t) (hT : ∀ q, q < N → q ≠ h → (W 3 q = -2 ∧ W 4 q = 0) ∨ ∃ t n, t < N ∧ 0 < n ∧ n < 100 ∧ W 3 q = nI t ∧ W 4 q = nI n) (h0 : W 0 0 = nI D) (hb : ∀ h, N ≤ h → h < 6 → W 1 h = 0 ∧ W 3 h = -2) (htr : ∀ i, i < 3 * N → ∃ a, a ≤ 99000 ∧ W 2 i = nI a) : zWa N D (zBack p o h W) := by
  have hN : N ≤ 6 := hk.2.1
  have hp : ∀ i, i < 3 * N → ∃ a, a < 100 ∧ p 2 i = nI a := hk.2.2.2.2.2.2.2.2.2.2.2.2.1
  obtain ⟨n, hn, en⟩ := zBnd_1 (p := p) (W := W) (o := o) (h := h) (m := zct (W 3 h)) (pr := 0) ho
  have q3 : ∀ q, zBack p o h W 3 q = if q = h then -2 else W 3 q := by
    intro q; rw [zBack_3]; rfl
  have q4 : ∀ q, zBack p o h W 4 q = if q = h then 0 else W 4 q := by
    intro q
    unfold zBack zBk2
    rw [zu_o (by decide), zu_at, zu_o (by decide)]
    by_cases e : q = h
    · rw [if_pos ⟨rfl, e⟩, if_pos e]
    · rw [if_neg (fun z => e z.2), if_neg e]
      show zBk1 _ _ _ _ 2 (zBk1 _ _ _ _ 1 (zBk1 _ _ _ _ 0 W)) 4 q = _
      unfold zBk1
      rw [zu_o (by decide), zu_o (by decide), zu_o (by decide)]
  refine ⟨?_, fun q hq => ?_, fun q hq hq6 => ?_, ?_⟩
  · rw [zBack_g (by decide) (by decide) (by decide) (by decide)]; exact h0
  · rw [q3, q4]
    by_cases e : q = h
    · rw [if_pos e, if_pos e]; exact Or.inl ⟨rfl, rfl⟩
    · rw [if_neg e, if_neg e]; exact hT q hq e
  · rw [q3, if_neg (by omega), zBack_g (by decide) (by decide) (by decide) (by decide)]
    exact hb q hq hq6
  · intro i hi
    unfold zBack zBk2
    rw [zu_o (by decide), zu_o (by decide), zu_o (by decide), en, et, zct_n (by omega)]
    show ∃ a, a ≤ 99000 ∧ zBk1 _ _ _ _ 2 (zBk1 _ _ _ _ 1 (zBk1 _ _ _ _ 0 W)) 2 i = nI a
    exact zBk1_tr hp ht hn rfl (by omega) (zBk1_tr hp ht hn rfl (by omega) (zBk1_tr hp ht hn rfl (by omega) htr)) i hi
theorem zWf_back (hk : zPk p N L T) (ho : ∃ a, a ≤ 100 ∧ o 4 = nI a) {h t : Nat} (hh : h < N) (ht : t < N) (et : W 3 h = nI t) (hW : zWf p N T D W) : zWf p N T D (zBack p o h W) :=
  ⟨zWa_back hk ho hh ht et (fun q hq _ => hW.1.2.1 q hq) hW.1.1 hW.1.2.2.1 hW.1.2.2.2, zWl_g (zBack_g (by decide) (by decide) (by decide) (by decide)) (zBack_g (by decide) (by decide) (by decide) (by decide)) (by rw [zBack_g (by decide) (by decide) (by decide) (by decide)]) (by rw [zBack_g (by decide) (by decide) (by decide) (by decide)]) hW.2.1, zWc_g (fun k _ q => by rw [zBack_g (by decide) (by decide) (by decide) (by decide)]; exact q) (zBack_g (by decide) (by decide) (by decide) (by decide)) (by rw [zBack_g (by decide) (by decide) (by decide) (by decide)]) hW.2.2⟩
theorem zEnd1_g {h g : Nat} (h2 : g ≠ 2) (h3 : g ≠ 3) (h4 : g ≠ 4) (h5 : g ≠ 5) : zEnd1 p o h W g = W g := by
  unfold zEnd1
  split
  · rfl
  · split
    · rw [zu_o h4]
    · rw [zBack_g h2 h3 h4 h5, zu_o h4]
theorem zWa_end (hk : zPk p N L T) (ho : ∃ a, a ≤ 100 ∧ o 4 = nI a) {h : Nat} (hh : h < N) (hW : zWa N D W) : zWa N D (zEnd1 p o h W) := by
  have hN : N ≤ 6 := hk.2.1
  obtain ⟨h0, hT, hb, htr⟩ := hW
  unfold zEnd1
  rcases hT h hh with ⟨e3, e4⟩ | ⟨t, n, ht, hn0, hn, e3, e4⟩
  · rw [if_pos (by rw [e3]; decide)]
    exact ⟨h0, hT, hb, htr⟩
  · rw [if_neg (by rw [e3]; exact nI_pos (by omega))]
    obtain ⟨q, rfl⟩ : ∃ q, n = q + 1 := ⟨n - 1, by omega⟩
    rw [e4, np]
    by_cases hq : q = 0
    · subst hq
      rw [if_neg (by decide)]
      refine zWa_back hk ho hh ht (by rw [zu_o (by decide)]; exact e3) (fun z hz hne => ?_) (by rw [zu_o (by decide)]; exact h0) (by rw [zu_o (by decide), zu_o (by decide)]; exact hb) (by rw [zu_o (by decide)]; exact htr)
      rw [zu_o (by decide), zu_k hne]
      exact hT z hz
    · rw [if_pos (qgt_0 (by omega) (by omega))]
      refine ⟨by rw [zu_o (by decide)]; exact h0, fun z hz => ?_, by rw [zu_o (by decide), zu_o (by decide)]; exact hb, by rw [zu_o (by decide)]; exact htr⟩
      rw [zu_o (by decide), zu_at]
      by_cases e : z = h
      · subst e
        rw [if_pos ⟨rfl, rfl⟩]
        exact Or.inr ⟨t, q, ht, by omega, by omega, e3, rfl⟩
      · rw [if_neg (fun c => e c.2)]
        exact hT z hz
/-- middle of a day: the world is well but for its day's letters -/
theorem zMid_wf (hk : zPk p N L T) (hD : D < 20000) (hW : zWf p N T D W) {r : Int64} : zWa N D (zMid p o W r).1 ∧ zWl p T D T (zMid p o W r).1 ∧ zWc p D T (zMid p o W r).1 := by
  have eL : zct (p 0 2) = L := by rw [hk.2.2.1]; exact zct_n (by have := hk.2.2.2.1; omega)
  have eT : zct (p 0 3) = T := by rw [hk.2.2.2.2.1]; exact zct_n (by have := hk.2.2.2.2.2.1; omega)
  unfold zMid
  rw [eL, eT]
  have w1 : zWf p N T D (zit (zLease p o) L W) := zit_wf (fun _ V => zWf p N T D V) (fun k V hkL h => zWf_lease hk hkL h) hW
  generalize zit (zLease p o) L W = V1 at w1
  have w2 : zWa N D (zit (zLet p o) T V1) ∧ zWl p T D T (zit (zLet p o) T V1) ∧ zWc p D 0 (zit (zLet p o) T V1) :=
    zit_wf (fun i V => zWa N D V ∧ zWl p T D i V ∧ zWc p D 0 V) (fun k V hkT h => ⟨zWa_let h.1, zWl_let hk hkT hD h.1.1 h.2.1, zWc_let h.2.2⟩) w1
  generalize zit (zLet p o) T V1 = V2 at w2
  have w3 : zWa N D (zit (zFind p o) T V2) ∧ zWl p T D T (zit (zFind p o) T V2) ∧ zWc p D T (zit (zFind p o) T V2) :=
    zit_wf (fun i V => zWa N D V ∧ zWl p T D T V ∧ zWc p D i V) (fun k V hkT h => ⟨zWa_find hk hkT h.1, zWl_g (zFind_g (by decide) (by decide) (by decide)) (zFind_g (by decide) (by decide) (by decide)) (zFind_0 (by decide)) (zFind_0 (by decide)) h.2.1, zWc_find hk hkT hD h.1.1 h.2.2⟩) w2
  split
  · exact ⟨hW.1, zWl_i (by omega) hW.2.1, zWc_i (by omega) hW.2.2⟩
  · split
    · exact ⟨w2.1, w2.2.1, zWc_i (by omega) w2.2.2⟩
    · split
      · exact ⟨w2.1, w2.2.1, zWc_i (by omega) w2.2.2⟩
      · exact w3
theorem zDay_wf (hk : zPk p N L T) (ho : ∃ a, a ≤ 100 ∧ o 4 = nI a) (hD : D < 20000) (hW : zWf p N T D W) {r : Int64} : zWf p N T (D + 1) (zDay p o W r).1 := by
  have eN : zct (p 0 1) = N := by rw [hk.1]; exact zct_n (by have := hk.2.1; omega)
  unfold zDay
  dsimp only
  rw [eN]
  have w1 := zMid_wf (o := o) hk hD hW (r := r)
  generalize (zMid p o W r).1 = V at w1
  have w2 : zWa N D (zit (zEnd1 p o) N V) ∧ zWl p T D T (zit (zEnd1 p o) N V) ∧ zWc p D T (zit (zEnd1 p o) N V) :=
    zit_wf (fun i V => zWa N D V ∧ zWl p T D T V ∧ zWc p D T V) (fun k V hkN h => ⟨zWa_end hk ho hkN h.1, zWl_g (zEnd1_g (by decide) (by decide) (by decide) (by decide)) (zEnd1_g (by decide) (by decide) (by decide) (by decide)) (by rw [zEnd1_g (by decide) (by decide) (by decide) (by decide)]) (by rw [zEnd1_g (by decide) (by decide) (by decide) (by decide)]) h.2.1, zWc_g (fun k _ q => by rw [zEnd1_g (by decide) (by decide) (by decide) (by decide)]; exact q) (zEnd1_g (by decide) (by decide) (by decide) (by decide)) (by rw [zEnd1_g (by decide) (by decide) (by decide) (by decide)]) h.2.2⟩) w1
  generalize zit (zEnd1 p o) N V = V2 at w2
  obtain ⟨⟨h0, hT, hb, htr⟩, hl, hc⟩ := w2
  refine ⟨⟨by rw [zu_eq, h0, ns], zTd_34 (zu_o (by decide)) (zu_o (by decide)) hT, by rw [zu_o (by decide), zu_o (by decide)]; exact hb, by rw [zu_o (by decide)]; exact htr⟩, zWl_d (zWl_g (zu_o (by decide)) (zu_o (by decide)) (zu_k (by decide)) (zu_k (by decide)) hl), zWc_d (zWc_g (fun k _ q => by rw [zu_o (by decide)]; exact q) (zu_o (by decide)) (zu_k (by decide)) hc)⟩
theorem zDays_wf (hk : zPk p N L T) (ho : ∃ a, a ≤ 100 ∧ o 4 = nI a) (hW : zWf p N T D W) {r : Int64} : ∀ n : Nat, D + n ≤ 20000 → zWf p N T (D + n) (zDays p o n W r).1 := by
  intro n
  induction n with
  | zero => intro _; exact hW
  | succ n ih => intro h; exact zDay_wf hk ho (by omega) (ih (by omega))
end ZP
