/-! lines, as they are meant -/
abbrev yS7 : Type := Nat × Nat × Nat × Nat × Nat × (Nat → Nat → Nat) × List (Nat × Nat)
abbrev yLR : Type := Except (Nat × Nat) yS7
/-- the k-th token from i on -/
def yit (b : Nat → Nat) (n : Nat) : Nat → Nat → Nat
  | 0, i => i
  | k + 1, i => zTn b n (yit b n k i)
def yTh (b : Nat → Nat) (n c i : Nat) (R : yLR) : yLR := if c = 0 then R else .error (c, zTp b n i)
def ycN (b : Nat → Nat) (n lo hi i : Nat) : Nat := if zkN b n i = 2 then (if zTv b n i < lo ∨ hi < zTv b n i then 2 else 0) else 1
/-- who has this name, 6: nobody -/
def yfi (P : Nat → Nat → Nat) (v : Nat) : Nat → Nat → Nat
  | 0, _ => 6
  | f + 1, k => if P 1 k = v then k else yfi P v f (k + 1)
def ycW (b : Nat → Nat) (n : Nat) (P : Nat → Nat → Nat) (N i : Nat) : Nat := if zkN b n i = 3 then (if yfi P (zTv b n i) N 0 = 6 then 0 else 3) else 1
/-- somebody told ahead who isn't ow -/
def ycO (b : Nat → Nat) (n : Nat) (P : Nat → Nat → Nat) (N ow i : Nat) : Nat := if zkN b n i = 3 then (if yfi P (zTv b n i) N 0 = 6 then 4 else if yfi P (zTv b n i) N 0 = ow then 5 else 0) else 1
def yBman (b : Nat → Nat) (n N L T t : Nat) (P : Nat → Nat → Nat) (l : List (Nat × Nat)) (i : Nat) : yLR :=
  yTh b n (if N = 6 then 2 else 0) i (yTh b n (ycW b n P N (yit b n 1 i)) (yit b n 1 i) (yTh b n (ycN b n 0 99 (yit b n 2 i)) (yit b n 2 i) (yTh b n (ycN b n 0 99 (yit b n 3 i)) (yit b n 3 i) (yTh b n (ycN b n 0 99 (yit b n 4 i)) (yit b n 4 i) (yTh b n (ycN b n 0 999 (yit b n 5 i)) (yit b n 5 i) (.ok (yit b n 6 i, N + 1, L, T, t, zu (zu (zu (zu (zu P 1 N (zTv b n (yit b n 1 i))) 2 (3 * N) (zTv b n (yit b n 2 i))) 2 (3 * N + 1) (zTv b n (yit b n 3 i))) 2 (3 * N + 2) (zTv b n (yit b n 4 i))) 3 N (zTv b n (yit b n 5 i)), l)))))))
def yBlea (b : Nat → Nat) (n N L T t : Nat) (P : Nat → Nat → Nat) (l : List (Nat × Nat)) (i : Nat) : yLR :=
  yTh b n (if L = 10 then 2 else 0) i (yTh b n (ycO b n P N 9 (yit b n 1 i)) (yit b n 1 i) (yTh b n (ycO b n P N (yfi P (zTv b n (yit b n 1 i)) N 0) (yit b n 2 i)) (yit b n 2 i) (yTh b n (ycN b n 0 99 (yit b n 3 i)) (yit b n 3 i) (yTh b n (ycN b n 1 99 (yit b n 4 i)) (yit b n 4 i) (yTh b n (ycN b n 0 99 (yit b n 5 i)) (yit b n 5 i) (.ok (yit b n 6 i, N, L + 1, T, t, zu (zu (zu (zu (zu P (5 + L) 0 (yfi P (zTv b n (yit b n 1 i)) N 0)) (5 + L) 1 (yfi P (zTv b n (yit b n 2 i)) N 0)) (5 + L) 2 (zTv b n (yit b n 3 i))) (5 + L) 3 (zTv b n (yit b n 4 i))) (5 + L) 4 (zTv b n (yit b n 5 i)), l)))))))
def yBlet (b : Nat → Nat) (n N L T t : Nat) (P : Nat → Nat → Nat) (l : List (Nat × Nat)) (i : Nat) : yLR :=
  yTh b n (if T = 12 then 2 else 0) i (yTh b n (ycO b n P N 9 (yit b n 1 i)) (yit b n 1 i) (yTh b n (ycO b n P N 9 (yit b n 2 i)) (yit b n 2 i) (yTh b n (ycN b n 0 99 (yit b n 3 i)) (yit b n 3 i) (.ok (yit b n 4 i, N, L, T + 1, t, zu (zu (zu P (16 + T) 0 (yfi P (zTv b n (yit b n 1 i)) N 0)) (16 + T) 1 (yfi P (zTv b n (yit b n 2 i)) N 0)) (16 + T) 2 (zTv b n (yit b n 3 i)), l)))))
def yBset (b : Nat → Nat) (n N L T t : Nat) (P : Nat → Nat → Nat) (l : List (Nat × Nat)) (i : Nat) : yLR :=
  yTh b n (if t.testBit (zkN b n i - 23) = true then 3 else 0) i (yTh b n (ycN b n 0 (if zkN b n i = 25 then 99999 else 100) (yit b n 1 i)) (yit b n 1 i) (.ok (yit b n 2 i, N, L, T, t ||| 2 ^ (zkN b n i - 23), zu P 28 (zkN b n i - 23) (zTv b n (yit b n 1 i)), l)))
def yfuel (n : Nat) : Nat := 10 * n + 10
def yBlaw (b : Nat → Nat) (n N L T t : Nat) (P : Nat → Nat → Nat) (l : List (Nat × Nat)) (i : Nat) : yLR :=
  yTh b n (if 27 ≤ zkN b n (yit b n 1 i) ∧ zkN b n (yit b n 1 i) ≤ 29 then (if t.testBit (3 + (zkN b n (yit b n 1 i) - 27)) = true then 3 else 0) else 1) (yit b n 1 i)
    (match yPx b n (yfuel n) 1 0 (yit b n 2 i) l.length l with
     | .error e => .error e
     | .ok r => .ok (r.1, N, L, T, t ||| 2 ^ (3 + (zkN b n (yit b n 1 i) - 27)), zu (zu P 29 (zkN b n (yit b n 1 i) - 27) l.length) 30 (zkN b n (yit b n 1 i) - 27) r.2.2.length, r.2.2))
def yBd (b : Nat → Nat) (n : Nat) (s : yS7) : yLR :=
  if zkN b n s.1 = 20 then yBman b n s.2.1 s.2.2.1 s.2.2.2.1 s.2.2.2.2.1 s.2.2.2.2.2.1 s.2.2.2.2.2.2 s.1 else
  if zkN b n s.1 = 21 then yBlea b n s.2.1 s.2.2.1 s.2.2.2.1 s.2.2.2.2.1 s.2.2.2.2.2.1 s.2.2.2.2.2.2 s.1 else
  if zkN b n s.1 = 22 then yBlet b n s.2.1 s.2.2.1 s.2.2.2.1 s.2.2.2.2.1 s.2.2.2.2.2.1 s.2.2.2.2.2.2 s.1 else
  if 23 ≤ zkN b n s.1 ∧ zkN b n s.1 ≤ 25 then yBset b n s.2.1 s.2.2.1 s.2.2.2.1 s.2.2.2.2.1 s.2.2.2.2.2.1 s.2.2.2.2.2.2 s.1 else
  if zkN b n s.1 = 26 then yBlaw b n s.2.1 s.2.2.1 s.2.2.2.1 s.2.2.2.2.1 s.2.2.2.2.2.1 s.2.2.2.2.2.2 s.1 else .error (1, zTp b n s.1)
/-- a line with its ';' -/
def yLn (b : Nat → Nat) (n : Nat) (s : yS7) : yLR := match yBd b n s with
  | .error e => .error e
  | .ok q => if zkN b n q.1 = 4 then .ok (zTn b n q.1, q.2) else .error (1, zTp b n q.1)
/-- lines until the end -/
def yTx (b : Nat → Nat) (n : Nat) : Nat → Nat → yS7 → Except (Nat × Nat) (Nat × yS7)
  | 0, _, _ => .error (0, 0)
  | f + 1, ln, s => if zkN b n s.1 = 0 then .ok (ln, s) else match yLn b n s with
    | .error e => .error e
    | .ok q => yTx b n f (ln + 1) q
section YL
variable {b : Nat → Nat} {n c i : Nat} {R : yLR}
theorem yTh_0 (h : c = 0) : yTh b n c i R = R := if_pos h
theorem yTh_n (h : ¬ c = 0) : yTh b n c i R = .error (c, zTp b n i) := if_neg h
theorem yit_n : ∀ k, i ≤ n → (∀ j, j < n → b j < 256) → yit b n k i ≤ n := by
  intro k
  induction k with
  | zero => intro hi _; exact hi
  | succ k ih => intro hi hb; exact (yt_f hb (ih hi hb)).2.1
theorem yfi_b {P : Nat → Nat → Nat} {v : Nat} : ∀ f k : Nat, k + f ≤ 6 → yfi P v f k = 6 ∨ yfi P v f k < k + f := by
  intro f
  induction f with
  | zero => intro k _; exact Or.inl rfl
  | succ f ih =>
    intro k hk
    show (if P 1 k = v then k else yfi P v f (k + 1)) = 6 ∨ (if P 1 k = v then k else yfi P v f (k + 1)) < k + (f + 1)
    by_cases c : P 1 k = v
    · rw [if_pos c]; exact Or.inr (by omega)
    · rw [if_neg c]
      rcases ih (k + 1) (by omega) with h | h
      · exact Or.inl h
      · exact Or.inr (by omega)
theorem yfi_z {P : Nat → Nat → Nat} {g : Nat → Int32} {v : Nat} (hv : v < 2 ^ 30) : ∀ f k : Nat, k + f ≤ 6 → (∀ j, k ≤ j → j < k + f → g j = nI (P 1 j) ∧ P 1 j < 2 ^ 30) → zfd g (nI v) f k = if yfi P v f k = 6 then -1 else nI (yfi P v f k) := by
  intro f
  induction f with
  | zero => intro k _ _; rfl
  | succ f ih =>
    intro k hk hg
    obtain ⟨g1, g2⟩ := hg k (Nat.le_refl _) (by omega)
    show (if g k = nI v then nI k else zfd g (nI v) f (k + 1)) = if (if P 1 k = v then k else yfi P v f (k + 1)) = 6 then -1 else nI (if P 1 k = v then k else yfi P v f (k + 1))
    rw [g1]
    by_cases c : P 1 k = v
    · rw [if_pos (by rw [c]), if_pos c, if_neg (by omega)]
    · rw [if_neg (fun z => c ((nI_eq (by omega) (by omega)).mp z)), if_neg c]
      exact ih (k + 1) (by omega) (fun j h1 h2 => hg j (by omega) (by omega))
theorem ybit {t k : Nat} (ht : t < 2 ^ 20) (hk : k < 20) : (nI t >>> (nI k &&& 31)) &&& 1 = if t.testBit k = true then 1 else 0 := by
  have e : ∀ k, k < 20 → ((nI k &&& 31).toBitVec.smod 32).toNat = k := by decide +kernel
  rw [pk_shrN (by omega) _ k (e k hk)]
  have h1 : t / 2 ^ k < 2 ^ 32 := Nat.lt_of_le_of_lt (Nat.div_le_self _ _) (by omega)
  rw [pk_andN h1 1 (by decide), Nat.testBit_eq_decide_div_mod_eq]
  by_cases h : t / 2 ^ k % 2 = 1
  · rw [show t / 2 ^ k % 2 ^ 1 = 1 from h]; simp [h]; rfl
  · have h2 : t / 2 ^ k % 2 ^ 1 = 0 := by show t / 2 ^ k % 2 = 0; omega
    rw [h2]; simp [h]; rfl
theorem ybor {t k : Nat} (hk : k < 20) : nI t ||| (1 <<< (nI k &&& 31)) = nI (t ||| 2 ^ k) := by
  have e : ∀ k, k < 20 → ((nI k &&& 31).toBitVec.smod 32).toNat = k := by decide +kernel
  have h2 : 2 ^ k ≤ 2 ^ 20 := Nat.pow_le_pow_right (by decide) (by omega)
  rw [show (1 : Int32) = nI 1 from rfl, pk_shlN _ k (e k hk) (by omega), Nat.one_mul, nI_or]
theorem yor_lt {t k m : Nat} (ht : t < 2 ^ m) (hk : k < m) : t ||| 2 ^ k < 2 ^ m := Nat.or_lt_two_pow ht (Nat.pow_lt_pow_right (by decide) hk)
theorem yor_t {t k j : Nat} : (t ||| 2 ^ k).testBit j = (t.testBit j || decide (k = j)) := by rw [Nat.testBit_or, Nat.testBit_two_pow]
end YL
