/-! worlds as the reference keeps them: slots -/
def zrS (s : Nat) (v : Int32) (g : Nat → Int32) : Nat → Int32 := fun i => if i = s then v else g i
def zrB (b n : Nat) (f g : Nat → Int32) : Nat → Int32 := fun i => if b ≤ i ∧ i < b + n then f (i - b) else g i
theorem zrS_s {s : Nat} {v : Int32} {g : Nat → Int32} : zrS s v g s = v := if_pos rfl
theorem zrS_n {s i : Nat} {v : Int32} {g : Nat → Int32} (h : i ≠ s) : zrS s v g i = g i := if_neg h
theorem zrS_u {s : Nat} {v u : Int32} {g : Nat → Int32} : va_up (zrS s v g) s u = zrS s u g := by
  funext i
  unfold va_up zrS
  by_cases h : i = s
  · rw [if_pos h, if_pos h]
  · rw [if_neg h, if_neg h, if_neg h]
theorem zrB_i {b n i : Nat} {f g : Nat → Int32} (h : i < n) : zrB b n f g (b + i) = f i := by
  unfold zrB
  rw [if_pos (by omega)]
  congr 1
  omega
theorem zrB_u {b n i : Nat} {f g : Nat → Int32} {v : Int32} (h : i < n) : va_up (zrB b n f g) (b + i) v = zrB b n (va_up f i v) g := by
  funext j
  unfold va_up zrB
  by_cases e : j = b + i
  · rw [if_pos e, if_pos (by omega)]
    show v = if j - b = i then v else f (j - b)
    rw [if_pos (by omega)]
  · rw [if_neg e]
    by_cases e2 : b ≤ j ∧ j < b + n
    · rw [if_pos e2, if_pos e2]
      show f (j - b) = if j - b = i then v else f (j - b)
      rw [if_neg (by omega)]
    · rw [if_neg e2, if_neg e2]
/-- a tenant, as the reference has it -/
def zet (v : Int32) : Int32 := if v < 0 then -1 else v
theorem zet_n {n : Nat} (h : n < 100000) : zet (nI n) = nI n := if_neg (nI_pos (by omega))
/-- bits of those that are not 0 -/
def zbm (f : Nat → Int32) : Nat → Nat
  | 0 => 0
  | n + 1 => if f n = 0 then zbm f n else zbm f n ||| 2 ^ n
def zbt (f : Nat → Int32) : Int32 := nI (zbm f 12)
theorem zbm_t (f : Nat → Int32) : ∀ n i : Nat, (zbm f n).testBit i = decide (i < n ∧ ¬ f i = 0) := by
  intro n
  induction n with
  | zero => intro i; simp [zbm]
  | succ n ih =>
    intro i
    unfold zbm
    by_cases h : f n = 0
    · rw [if_pos h, ih]
      by_cases e : i = n
      · subst e; simp [h]
      · congr 1
        apply propext
        constructor
        · intro q; exact ⟨by omega, q.2⟩
        · intro q; exact ⟨by omega, q.2⟩
    · rw [if_neg h, Nat.testBit_or, ih, Nat.testBit_two_pow]
      by_cases e : n = i
      · subst e; simp [h]
      · have : (i < n) = (i < n + 1) := by apply propext; omega
        simp [e, this]
theorem zbm_lt (f : Nat → Int32) : ∀ n : Nat, zbm f n < 2 ^ n := by
  intro n
  apply Nat.lt_pow_two_of_testBit
  intro i hi
  rw [zbm_t]
  simp
  omega
theorem nI_or (a b : Nat) : nI a ||| nI b = nI (a ||| b) := by
  unfold nI
  apply Int32.toBitVec_inj.mp
  rw [Int32.toBitVec_or]
  show BitVec.ofNat 32 a ||| BitVec.ofNat 32 b = BitVec.ofNat 32 (a ||| b)
  exact (BitVec.ofNat_or).symm
theorem zsh1 {k : Nat} (hk : k < 12) : (1 : Int32) <<< (nI k &&& 31) = nI (2 ^ k) := by
  have : ∀ k, k < 12 → (1 : Int32) <<< (nI k &&& 31) = nI (2 ^ k) := by decide +kernel
  exact this k hk
theorem zbt_up {f : Nat → Int32} {k : Nat} (hk : k < 12) : zbt f ||| (1 <<< (nI k &&& 31)) = zbt (va_up f k 1) := by
  rw [zsh1 hk]
  unfold zbt
  rw [nI_or]
  congr 1
  apply Nat.eq_of_testBit_eq
  intro i
  rw [Nat.testBit_or, zbm_t, zbm_t, Nat.testBit_two_pow]
  unfold va_up
  by_cases e : k = i
  · subst e; simp [hk]
  · have : ¬ i = k := fun q => e q.symm
    simp [e, this]
theorem zbit_at {n k : Nat} (hn : n < 4096) (hk : k < 12) : (nI n >>> (nI k &&& 31)) &&& 1 = if n.testBit k = true then 1 else 0 := by
  have e1 : ((nI k &&& 31).toBitVec.smod 32).toNat = k := by
    have : ∀ k, k < 12 → ((nI k &&& 31).toBitVec.smod 32).toNat = k := by decide +kernel
    exact this k hk
  rw [pk_shrN (by omega) _ k e1, pk_andN (by have := Nat.div_le_self n (2 ^ k); omega) 1 (by decide)]
  rw [Nat.testBit_eq_decide_div_mod_eq]
  by_cases h : n / 2 ^ k % 2 = 1
  · rw [show n / 2 ^ k % 2 ^ 1 = 1 from h]; simp [h]; rfl
  · have h2 : n / 2 ^ k % 2 ^ 1 = 0 := by show n / 2 ^ k % 2 = 0; omega
    rw [h2]; simp [h]; rfl
theorem zbt_at {f : Nat → Int32} {k : Nat} (hk : k < 12) : (zbt f >>> (nI k &&& 31)) &&& 1 = if f k = 0 then 0 else 1 := by
  unfold zbt
  rw [zbit_at (zbm_lt f 12) hk, zbm_t]
  by_cases h : f k = 0
  · simp [h]
  · simp [h, hk]
/-- the world W, with the number r, as the reference has it in its slot s -/
def zPM (N s : Nat) (W : Nat → Nat → Int32) (r : Int32) (ia : Nat → Nat → Int32) : Nat → Nat → Int32 := fun c =>
  if c = 147 then zrS s (W 0 0) (ia 147) else
  if c = 148 then zrS s (r) (ia 148) else
  if c = 149 then zrS s (W 0 14) (ia 149) else
  if c = 150 then zrS s (zbt (W 7)) (ia 150) else
  if c = 151 then zrS s (zbt (W 8)) (ia 151) else
  if c = 152 then zrB (18 * s) 18 (fun i => if i < 3 * N then W 2 i else 0) (ia 152) else
  if c = 153 then zrB (6 * s) 6 (fun i => zet (W 3 i)) (ia 153) else
  if c = 154 then zrB (6 * s) 6 (W 4) (ia 154) else
  if c = 155 then zrB (6 * s) 6 (W 5) (ia 155) else
  if c = 156 then zrB (6 * s) 6 (W 1) (ia 156) else
  if c = 157 then zrB (12 * s) 12 (W 6) (ia 157) else
  if c = 158 then zrB (36 * s) 36 (fun i => if W 6 (i / 3) = 0 then -2 else W 9 i) (ia 158) else
  ia c
theorem zPM_147 {N s : Nat} {W : Nat → Nat → Int32} {r : Int32} {ia : Nat → Nat → Int32} : zPM N s W r ia 147 = zrS s (W 0 0) (ia 147) := rfl
theorem zPM_148 {N s : Nat} {W : Nat → Nat → Int32} {r : Int32} {ia : Nat → Nat → Int32} : zPM N s W r ia 148 = zrS s (r) (ia 148) := rfl
theorem zPM_149 {N s : Nat} {W : Nat → Nat → Int32} {r : Int32} {ia : Nat → Nat → Int32} : zPM N s W r ia 149 = zrS s (W 0 14) (ia 149) := rfl
theorem zPM_150 {N s : Nat} {W : Nat → Nat → Int32} {r : Int32} {ia : Nat → Nat → Int32} : zPM N s W r ia 150 = zrS s (zbt (W 7)) (ia 150) := rfl
theorem zPM_151 {N s : Nat} {W : Nat → Nat → Int32} {r : Int32} {ia : Nat → Nat → Int32} : zPM N s W r ia 151 = zrS s (zbt (W 8)) (ia 151) := rfl
theorem zPM_152 {N s : Nat} {W : Nat → Nat → Int32} {r : Int32} {ia : Nat → Nat → Int32} : zPM N s W r ia 152 = zrB (18 * s) 18 (fun i => if i < 3 * N then W 2 i else 0) (ia 152) := rfl
theorem zPM_153 {N s : Nat} {W : Nat → Nat → Int32} {r : Int32} {ia : Nat → Nat → Int32} : zPM N s W r ia 153 = zrB (6 * s) 6 (fun i => zet (W 3 i)) (ia 153) := rfl
theorem zPM_154 {N s : Nat} {W : Nat → Nat → Int32} {r : Int32} {ia : Nat → Nat → Int32} : zPM N s W r ia 154 = zrB (6 * s) 6 (W 4) (ia 154) := rfl
theorem zPM_155 {N s : Nat} {W : Nat → Nat → Int32} {r : Int32} {ia : Nat → Nat → Int32} : zPM N s W r ia 155 = zrB (6 * s) 6 (W 5) (ia 155) := rfl
theorem zPM_156 {N s : Nat} {W : Nat → Nat → Int32} {r : Int32} {ia : Nat → Nat → Int32} : zPM N s W r ia 156 = zrB (6 * s) 6 (W 1) (ia 156) := rfl
theorem zPM_157 {N s : Nat} {W : Nat → Nat → Int32} {r : Int32} {ia : Nat → Nat → Int32} : zPM N s W r ia 157 = zrB (12 * s) 12 (W 6) (ia 157) := rfl
theorem zPM_158 {N s : Nat} {W : Nat → Nat → Int32} {r : Int32} {ia : Nat → Nat → Int32} : zPM N s W r ia 158 = zrB (36 * s) 36 (fun i => if W 6 (i / 3) = 0 then -2 else W 9 i) (ia 158) := rfl
theorem zPM_o {N s : Nat} {W : Nat → Nat → Int32} {r : Int32} {ia : Nat → Nat → Int32} {c : Nat} (h : c < 147 ∨ 158 < c) : zPM N s W r ia c = ia c := by
  unfold zPM
  rw [if_neg (show ¬ c = 147 by omega), if_neg (show ¬ c = 148 by omega), if_neg (show ¬ c = 149 by omega), if_neg (show ¬ c = 150 by omega), if_neg (show ¬ c = 151 by omega), if_neg (show ¬ c = 152 by omega), if_neg (show ¬ c = 153 by omega), if_neg (show ¬ c = 154 by omega), if_neg (show ¬ c = 155 by omega), if_neg (show ¬ c = 156 by omega), if_neg (show ¬ c = 157 by omega), if_neg (show ¬ c = 158 by omega)]
theorem zPM_all {N s : Nat} {W V : Nat → Nat → Int32} {r t : Int32} {ia ja : Nat → Nat → Int32} (h : ∀ c, 147 ≤ c → c ≤ 158 → zPM N s W r ia c = zPM N s V t ja c) (ho : ∀ c, c < 147 ∨ 158 < c → ia c = ja c) : zPM N s W r ia = zPM N s V t ja := by
  funext c
  by_cases q : c < 147 ∨ 158 < c
  · rw [zPM_o q, zPM_o q, ho c q]
  · exact h c (by omega) (by omega)
theorem zPM_one {N s : Nat} {W : Nat → Nat → Int32} {r : Int32} {ia : Nat → Nat → Int32} {k : Nat} {v : Int32} {W' : Nat → Nat → Int32} {r' : Int32} (c : Nat) (hc : 147 ≤ c ∧ c ≤ 158) (h : va_up (zPM N s W r ia c) k v = zPM N s W' r' ia c) (ho : ∀ c', 147 ≤ c' → c' ≤ 158 → c' ≠ c → zPM N s W r ia c' = zPM N s W' r' ia c') : zu (zPM N s W r ia) c k v = zPM N s W' r' ia := by
  funext c'
  by_cases e : c' = c
  · subst e
    rw [zu_self, h]
  · rw [zu_o e]
    by_cases q : c' < 147 ∨ 158 < c'
    · rw [zPM_o q, zPM_o q]
    · exact ho c' (by omega) (by omega) e
theorem zPM_12 {P : Nat → Prop} (h147 : P 147) (h148 : P 148) (h149 : P 149) (h150 : P 150) (h151 : P 151) (h152 : P 152) (h153 : P 153) (h154 : P 154) (h155 : P 155) (h156 : P 156) (h157 : P 157) (h158 : P 158) : ∀ c, 147 ≤ c → c ≤ 158 → P c := by
  intro c h1 h2
  have : c = 147 ∨ c = 148 ∨ c = 149 ∨ c = 150 ∨ c = 151 ∨ c = 152 ∨ c = 153 ∨ c = 154 ∨ c = 155 ∨ c = 156 ∨ c = 157 ∨ c = 158 := by omega
  rcases this with h | h | h | h | h | h | h | h | h | h | h | h <;> subst h <;> assumption
theorem zPM_u153 {N s : Nat} {W : Nat → Nat → Int32} {r : Int32} {ia : Nat → Nat → Int32} {h : Nat} {u : Int32} (hh : h < 6) : zu (zPM N s W r ia) 153 (6 * s + h) (zet u) = zPM N s (zu W 3 (h) (u)) r ia := by
  refine zPM_one 153 (by omega) ?_ ?_
  · rw [zPM_153, zPM_153, zrB_u hh]
    congr 1
    funext i
    rw [zu_self]
    unfold va_up
    by_cases e : i = h
    · rw [if_pos e, if_pos e]
    · rw [if_neg e, if_neg e]
  · refine zPM_12 (P := fun c' => c' ≠ 153 → zPM N s W r ia c' = zPM N s (zu W 3 (h) (u)) r ia c') ?_ ?_ ?_ ?_ ?_ ?_ ?_ ?_ ?_ ?_ ?_ ?_
    · intro h; simp only [zPM_147, zu_ne (show (0 : Nat) ≠ 3 by decide), zu_ne (show (1 : Nat) ≠ 3 by decide), zu_ne (show (2 : Nat) ≠ 3 by decide), zu_ne (show (4 : Nat) ≠ 3 by decide), zu_ne (show (5 : Nat) ≠ 3 by decide), zu_ne (show (6 : Nat) ≠ 3 by decide), zu_ne (show (7 : Nat) ≠ 3 by decide), zu_ne (show (8 : Nat) ≠ 3 by decide), zu_ne (show (9 : Nat) ≠ 3 by decide)]
    · intro h; simp only [zPM_148]
    · intro h; simp only [zPM_149, zu_ne (show (0 : Nat) ≠ 3 by decide), zu_ne (show (1 : Nat) ≠ 3 by decide), zu_ne (show (2 : Nat) ≠ 3 by decide), zu_ne (show (4 : Nat) ≠ 3 by decide), zu_ne (show (5 : Nat) ≠ 3 by decide), zu_ne (show (6 : Nat) ≠ 3 by decide), zu_ne (show (7 : Nat) ≠ 3 by decide), zu_ne (show (8 : Nat) ≠ 3 by decide), zu_ne (show (9 : Nat) ≠ 3 by decide)]
    · intro h; simp only [zPM_150, zu_ne (show (0 : Nat) ≠ 3 by decide), zu_ne (show (1 : Nat) ≠ 3 by decide), zu_ne (show (2 : Nat) ≠ 3 by decide), zu_ne (show (4 : Nat) ≠ 3 by decide), zu_ne (show (5 : Nat) ≠ 3 by decide), zu_ne (show (6 : Nat) ≠ 3 by decide), zu_ne (show (7 : Nat) ≠ 3 by decide), zu_ne (show (8 : Nat) ≠ 3 by decide), zu_ne (show (9 : Nat) ≠ 3 by decide)]
    · intro h; simp only [zPM_151, zu_ne (show (0 : Nat) ≠ 3 by decide), zu_ne (show (1 : Nat) ≠ 3 by decide), zu_ne (show (2 : Nat) ≠ 3 by decide), zu_ne (show (4 : Nat) ≠ 3 by decide), zu_ne (show (5 : Nat) ≠ 3 by decide), zu_ne (show (6 : Nat) ≠ 3 by decide), zu_ne (show (7 : Nat) ≠ 3 by decide), zu_ne (show (8 : Nat) ≠ 3 by decide), zu_ne (show (9 : Nat) ≠ 3 by decide)]
    · intro h; simp only [zPM_152, zu_ne (show (0 : Nat) ≠ 3 by decide), zu_ne (show (1 : Nat) ≠ 3 by decide), zu_ne (show (2 : Nat) ≠ 3 by decide), zu_ne (show (4 : Nat) ≠ 3 by decide), zu_ne (show (5 : Nat) ≠ 3 by decide), zu_ne (show (6 : Nat) ≠ 3 by decide), zu_ne (show (7 : Nat) ≠ 3 by decide), zu_ne (show (8 : Nat) ≠ 3 by decide), zu_ne (show (9 : Nat) ≠ 3 by decide)]
    · intro h; exact absurd rfl h
    · intro h; simp only [zPM_154, zu_ne (show (0 : Nat) ≠ 3 by decide), zu_ne (show (1 : Nat) ≠ 3 by decide), zu_ne (show (2 : Nat) ≠ 3 by decide), zu_ne (show (4 : Nat) ≠ 3 by decide), zu_ne (show (5 : Nat) ≠ 3 by decide), zu_ne (show (6 : Nat) ≠ 3 by decide), zu_ne (show (7 : Nat) ≠ 3 by decide), zu_ne (show (8 : Nat) ≠ 3 by decide), zu_ne (show (9 : Nat) ≠ 3 by decide)]
    · intro h; simp only [zPM_155, zu_ne (show (0 : Nat) ≠ 3 by decide), zu_ne (show (1 : Nat) ≠ 3 by decide), zu_ne (show (2 : Nat) ≠ 3 by decide), zu_ne (show (4 : Nat) ≠ 3 by decide), zu_ne (show (5 : Nat) ≠ 3 by decide), zu_ne (show (6 : Nat) ≠ 3 by decide), zu_ne (show (7 : Nat) ≠ 3 by decide), zu_ne (show (8 : Nat) ≠ 3 by decide), zu_ne (show (9 : Nat) ≠ 3 by decide)]
    · intro h; simp only [zPM_156, zu_ne (show (0 : Nat) ≠ 3 by decide), zu_ne (show (1 : Nat) ≠ 3 by decide), zu_ne (show (2 : Nat) ≠ 3 by decide), zu_ne (show (4 : Nat) ≠ 3 by decide), zu_ne (show (5 : Nat) ≠ 3 by decide), zu_ne (show (6 : Nat) ≠ 3 by decide), zu_ne (show (7 : Nat) ≠ 3 by decide), zu_ne (show (8 : Nat) ≠ 3 by decide), zu_ne (show (9 : Nat) ≠ 3 by decide)]
    · intro h; simp only [zPM_157, zu_ne (show (0 : Nat) ≠ 3 by decide), zu_ne (show (1 : Nat) ≠ 3 by decide), zu_ne (show (2 : Nat) ≠ 3 by decide), zu_ne (show (4 : Nat) ≠ 3 by decide), zu_ne (show (5 : Nat) ≠ 3 by decide), zu_ne (show (6 : Nat) ≠ 3 by decide), zu_ne (show (7 : Nat) ≠ 3 by decide), zu_ne (show (8 : Nat) ≠ 3 by decide), zu_ne (show (9 : Nat) ≠ 3 by decide)]
    · intro h; simp only [zPM_158, zu_ne (show (0 : Nat) ≠ 3 by decide), zu_ne (show (1 : Nat) ≠ 3 by decide), zu_ne (show (2 : Nat) ≠ 3 by decide), zu_ne (show (4 : Nat) ≠ 3 by decide), zu_ne (show (5 : Nat) ≠ 3 by decide), zu_ne (show (6 : Nat) ≠ 3 by decide), zu_ne (show (7 : Nat) ≠ 3 by decide), zu_ne (show (8 : Nat) ≠ 3 by decide), zu_ne (show (9 : Nat) ≠ 3 by decide)]
theorem zPM_u154 {N s : Nat} {W : Nat → Nat → Int32} {r : Int32} {ia : Nat → Nat → Int32} {h : Nat} {u : Int32} (hh : h < 6) : zu (zPM N s W r ia) 154 (6 * s + h) (u) = zPM N s (zu W 4 (h) (u)) r ia := by
  refine zPM_one 154 (by omega) ?_ ?_
  · rw [zPM_154, zPM_154, zrB_u hh, zu_self]
  · refine zPM_12 (P := fun c' => c' ≠ 154 → zPM N s W r ia c' = zPM N s (zu W 4 (h) (u)) r ia c') ?_ ?_ ?_ ?_ ?_ ?_ ?_ ?_ ?_ ?_ ?_ ?_
    · intro h; simp only [zPM_147, zu_ne (show (0 : Nat) ≠ 4 by decide), zu_ne (show (1 : Nat) ≠ 4 by decide), zu_ne (show (2 : Nat) ≠ 4 by decide), zu_ne (show (3 : Nat) ≠ 4 by decide), zu_ne (show (5 : Nat) ≠ 4 by decide), zu_ne (show (6 : Nat) ≠ 4 by decide), zu_ne (show (7 : Nat) ≠ 4 by decide), zu_ne (show (8 : Nat) ≠ 4 by decide), zu_ne (show (9 : Nat) ≠ 4 by decide)]
    · intro h; simp only [zPM_148]
    · intro h; simp only [zPM_149, zu_ne (show (0 : Nat) ≠ 4 by decide), zu_ne (show (1 : Nat) ≠ 4 by decide), zu_ne (show (2 : Nat) ≠ 4 by decide), zu_ne (show (3 : Nat) ≠ 4 by decide), zu_ne (show (5 : Nat) ≠ 4 by decide), zu_ne (show (6 : Nat) ≠ 4 by decide), zu_ne (show (7 : Nat) ≠ 4 by decide), zu_ne (show (8 : Nat) ≠ 4 by decide), zu_ne (show (9 : Nat) ≠ 4 by decide)]
    · intro h; simp only [zPM_150, zu_ne (show (0 : Nat) ≠ 4 by decide), zu_ne (show (1 : Nat) ≠ 4 by decide), zu_ne (show (2 : Nat) ≠ 4 by decide), zu_ne (show (3 : Nat) ≠ 4 by decide), zu_ne (show (5 : Nat) ≠ 4 by decide), zu_ne (show (6 : Nat) ≠ 4 by decide), zu_ne (show (7 : Nat) ≠ 4 by decide), zu_ne (show (8 : Nat) ≠ 4 by decide), zu_ne (show (9 : Nat) ≠ 4 by decide)]
    · intro h; simp only [zPM_151, zu_ne (show (0 : Nat) ≠ 4 by decide), zu_ne (show (1 : Nat) ≠ 4 by decide), zu_ne (show (2 : Nat) ≠ 4 by decide), zu_ne (show (3 : Nat) ≠ 4 by decide), zu_ne (show (5 : Nat) ≠ 4 by decide), zu_ne (show (6 : Nat) ≠ 4 by decide), zu_ne (show (7 : Nat) ≠ 4 by decide), zu_ne (show (8 : Nat) ≠ 4 by decide), zu_ne (show (9 : Nat) ≠ 4 by decide)]
    · intro h; simp only [zPM_152, zu_ne (show (0 : Nat) ≠ 4 by decide), zu_ne (show (1 : Nat) ≠ 4 by decide), zu_ne (show (2 : Nat) ≠ 4 by decide), zu_ne (show (3 : Nat) ≠ 4 by decide), zu_ne (show (5 : Nat) ≠ 4 by decide), zu_ne (show (6 : Nat) ≠ 4 by decide), zu_ne (show (7 : Nat) ≠ 4 by decide), zu_ne (show (8 : Nat) ≠ 4 by decide), zu_ne (show (9 : Nat) ≠ 4 by decide)]
    · intro h; simp only [zPM_153, zu_ne (show (0 : Nat) ≠ 4 by decide), zu_ne (show (1 : Nat) ≠ 4 by decide), zu_ne (show (2 : Nat) ≠ 4 by decide), zu_ne (show (3 : Nat) ≠ 4 by decide), zu_ne (show (5 : Nat) ≠ 4 by decide), zu_ne (show (6 : Nat) ≠ 4 by decide), zu_ne (show (7 : Nat) ≠ 4 by decide), zu_ne (show (8 : Nat) ≠ 4 by decide), zu_ne (show (9 : Nat) ≠ 4 by decide)]
    · intro h; exact absurd rfl h
    · intro h; simp only [zPM_155, zu_ne (show (0 : Nat) ≠ 4 by decide), zu_ne (show (1 : Nat) ≠ 4 by decide), zu_ne (show (2 : Nat) ≠ 4 by decide), zu_ne (show (3 : Nat) ≠ 4 by decide), zu_ne (show (5 : Nat) ≠ 4 by decide), zu_ne (show (6 : Nat) ≠ 4 by decide), zu_ne (show (7 : Nat) ≠ 4 by decide), zu_ne (show (8 : Nat) ≠ 4 by decide), zu_ne (show (9 : Nat) ≠ 4 by decide)]
    · intro h; simp only [zPM_156, zu_ne (show (0 : Nat) ≠ 4 by decide), zu_ne (show (1 : Nat) ≠ 4 by decide), zu_ne (show (2 : Nat) ≠ 4 by decide), zu_ne (show (3 : Nat) ≠ 4 by decide), zu_ne (show (5 : Nat) ≠ 4 by decide), zu_ne (show (6 : Nat) ≠ 4 by decide), zu_ne (show (7 : Nat) ≠ 4 by decide), zu_ne (show (8 : Nat) ≠ 4 by decide), zu_ne (show (9 : Nat) ≠ 4 by decide)]
    · intro h; simp only [zPM_157, zu_ne (show (0 : Nat) ≠ 4 by decide), zu_ne (show (1 : Nat) ≠ 4 by decide), zu_ne (show (2 : Nat) ≠ 4 by decide), zu_ne (show (3 : Nat) ≠ 4 by decide), zu_ne (show (5 : Nat) ≠ 4 by decide), zu_ne (show (6 : Nat) ≠ 4 by decide), zu_ne (show (7 : Nat) ≠ 4 by decide), zu_ne (show (8 : Nat) ≠ 4 by decide), zu_ne (show (9 : Nat) ≠ 4 by decide)]
    · intro h; simp only [zPM_158, zu_ne (show (0 : Nat) ≠ 4 by decide), zu_ne (show (1 : Nat) ≠ 4 by decide), zu_ne (show (2 : Nat) ≠ 4 by decide), zu_ne (show (3 : Nat) ≠ 4 by decide), zu_ne (show (5 : Nat) ≠ 4 by decide), zu_ne (show (6 : Nat) ≠ 4 by decide), zu_ne (show (7 : Nat) ≠ 4 by decide), zu_ne (show (8 : Nat) ≠ 4 by decide), zu_ne (show (9 : Nat) ≠ 4 by decide)]
theorem zPM_u155 {N s : Nat} {W : Nat → Nat → Int32} {r : Int32} {ia : Nat → Nat → Int32} {h : Nat} {u : Int32} (hh : h < 6) : zu (zPM N s W r ia) 155 (6 * s + h) (u) = zPM N s (zu W 5 (h) (u)) r ia := by
  refine zPM_one 155 (by omega) ?_ ?_
  · rw [zPM_155, zPM_155, zrB_u hh, zu_self]
  · refine zPM_12 (P := fun c' => c' ≠ 155 → zPM N s W r ia c' = zPM N s (zu W 5 (h) (u)) r ia c') ?_ ?_ ?_ ?_ ?_ ?_ ?_ ?_ ?_ ?_ ?_ ?_
    · intro h; simp only [zPM_147, zu_ne (show (0 : Nat) ≠ 5 by decide), zu_ne (show (1 : Nat) ≠ 5 by decide), zu_ne (show (2 : Nat) ≠ 5 by decide), zu_ne (show (3 : Nat) ≠ 5 by decide), zu_ne (show (4 : Nat) ≠ 5 by decide), zu_ne (show (6 : Nat) ≠ 5 by decide), zu_ne (show (7 : Nat) ≠ 5 by decide), zu_ne (show (8 : Nat) ≠ 5 by decide), zu_ne (show (9 : Nat) ≠ 5 by decide)]
    · intro h; simp only [zPM_148]
    · intro h; simp only [zPM_149, zu_ne (show (0 : Nat) ≠ 5 by decide), zu_ne (show (1 : Nat) ≠ 5 by decide), zu_ne (show (2 : Nat) ≠ 5 by decide), zu_ne (show (3 : Nat) ≠ 5 by decide), zu_ne (show (4 : Nat) ≠ 5 by decide), zu_ne (show (6 : Nat) ≠ 5 by decide), zu_ne (show (7 : Nat) ≠ 5 by decide), zu_ne (show (8 : Nat) ≠ 5 by decide), zu_ne (show (9 : Nat) ≠ 5 by decide)]
    · intro h; simp only [zPM_150, zu_ne (show (0 : Nat) ≠ 5 by decide), zu_ne (show (1 : Nat) ≠ 5 by decide), zu_ne (show (2 : Nat) ≠ 5 by decide), zu_ne (show (3 : Nat) ≠ 5 by decide), zu_ne (show (4 : Nat) ≠ 5 by decide), zu_ne (show (6 : Nat) ≠ 5 by decide), zu_ne (show (7 : Nat) ≠ 5 by decide), zu_ne (show (8 : Nat) ≠ 5 by decide), zu_ne (show (9 : Nat) ≠ 5 by decide)]
    · intro h; simp only [zPM_151, zu_ne (show (0 : Nat) ≠ 5 by decide), zu_ne (show (1 : Nat) ≠ 5 by decide), zu_ne (show (2 : Nat) ≠ 5 by decide), zu_ne (show (3 : Nat) ≠ 5 by decide), zu_ne (show (4 : Nat) ≠ 5 by decide), zu_ne (show (6 : Nat) ≠ 5 by decide), zu_ne (show (7 : Nat) ≠ 5 by decide), zu_ne (show (8 : Nat) ≠ 5 by decide), zu_ne (show (9 : Nat) ≠ 5 by decide)]
    · intro h; simp only [zPM_152, zu_ne (show (0 : Nat) ≠ 5 by decide), zu_ne (show (1 : Nat) ≠ 5 by decide), zu_ne (show (2 : Nat) ≠ 5 by decide), zu_ne (show (3 : Nat) ≠ 5 by decide), zu_ne (show (4 : Nat) ≠ 5 by decide), zu_ne (show (6 : Nat) ≠ 5 by decide), zu_ne (show (7 : Nat) ≠ 5 by decide), zu_ne (show (8 : Nat) ≠ 5 by decide), zu_ne (show (9 : Nat) ≠ 5 by decide)]
    · intro h; simp only [zPM_153, zu_ne (show (0 : Nat) ≠ 5 by decide), zu_ne (show (1 : Nat) ≠ 5 by decide), zu_ne (show (2 : Nat) ≠ 5 by decide), zu_ne (show (3 : Nat) ≠ 5 by decide), zu_ne (show (4 : Nat) ≠ 5 by decide), zu_ne (show (6 : Nat) ≠ 5 by decide), zu_ne (show (7 : Nat) ≠ 5 by decide), zu_ne (show (8 : Nat) ≠ 5 by decide), zu_ne (show (9 : Nat) ≠ 5 by decide)]
    · intro h; simp only [zPM_154, zu_ne (show (0 : Nat) ≠ 5 by decide), zu_ne (show (1 : Nat) ≠ 5 by decide), zu_ne (show (2 : Nat) ≠ 5 by decide), zu_ne (show (3 : Nat) ≠ 5 by decide), zu_ne (show (4 : Nat) ≠ 5 by decide), zu_ne (show (6 : Nat) ≠ 5 by decide), zu_ne (show (7 : Nat) ≠ 5 by decide), zu_ne (show (8 : Nat) ≠ 5 by decide), zu_ne (show (9 : Nat) ≠ 5 by decide)]
    · intro h; exact absurd rfl h
    · intro h; simp only [zPM_156, zu_ne (show (0 : Nat) ≠ 5 by decide), zu_ne (show (1 : Nat) ≠ 5 by decide), zu_ne (show (2 : Nat) ≠ 5 by decide), zu_ne (show (3 : Nat) ≠ 5 by decide), zu_ne (show (4 : Nat) ≠ 5 by decide), zu_ne (show (6 : Nat) ≠ 5 by decide), zu_ne (show (7 : Nat) ≠ 5 by decide), zu_ne (show (8 : Nat) ≠ 5 by decide), zu_ne (show (9 : Nat) ≠ 5 by decide)]
    · intro h; simp only [zPM_157, zu_ne (show (0 : Nat) ≠ 5 by decide), zu_ne (show (1 : Nat) ≠ 5 by decide), zu_ne (show (2 : Nat) ≠ 5 by decide), zu_ne (show (3 : Nat) ≠ 5 by decide), zu_ne (show (4 : Nat) ≠ 5 by decide), zu_ne (show (6 : Nat) ≠ 5 by decide), zu_ne (show (7 : Nat) ≠ 5 by decide), zu_ne (show (8 : Nat) ≠ 5 by decide), zu_ne (show (9 : Nat) ≠ 5 by decide)]
    · intro h; simp only [zPM_158, zu_ne (show (0 : Nat) ≠ 5 by decide), zu_ne (show (1 : Nat) ≠ 5 by decide), zu_ne (show (2 : Nat) ≠ 5 by decide), zu_ne (show (3 : Nat) ≠ 5 by decide), zu_ne (show (4 : Nat) ≠ 5 by decide), zu_ne (show (6 : Nat) ≠ 5 by decide), zu_ne (show (7 : Nat) ≠ 5 by decide), zu_ne (show (8 : Nat) ≠ 5 by decide), zu_ne (show (9 : Nat) ≠ 5 by decide)]
theorem zPM_u156 {N s : Nat} {W : Nat → Nat → Int32} {r : Int32} {ia : Nat → Nat → Int32} {h : Nat} {u : Int32} (hh : h < 6) : zu (zPM N s W r ia) 156 (6 * s + h) (u) = zPM N s (zu W 1 (h) (u)) r ia := by
  refine zPM_one 156 (by omega) ?_ ?_
  · rw [zPM_156, zPM_156, zrB_u hh, zu_self]
  · refine zPM_12 (P := fun c' => c' ≠ 156 → zPM N s W r ia c' = zPM N s (zu W 1 (h) (u)) r ia c') ?_ ?_ ?_ ?_ ?_ ?_ ?_ ?_ ?_ ?_ ?_ ?_
    · intro h; simp only [zPM_147, zu_ne (show (0 : Nat) ≠ 1 by decide), zu_ne (show (2 : Nat) ≠ 1 by decide), zu_ne (show (3 : Nat) ≠ 1 by decide), zu_ne (show (4 : Nat) ≠ 1 by decide), zu_ne (show (5 : Nat) ≠ 1 by decide), zu_ne (show (6 : Nat) ≠ 1 by decide), zu_ne (show (7 : Nat) ≠ 1 by decide), zu_ne (show (8 : Nat) ≠ 1 by decide), zu_ne (show (9 : Nat) ≠ 1 by decide)]
    · intro h; simp only [zPM_148]
    · intro h; simp only [zPM_149, zu_ne (show (0 : Nat) ≠ 1 by decide), zu_ne (show (2 : Nat) ≠ 1 by decide), zu_ne (show (3 : Nat) ≠ 1 by decide), zu_ne (show (4 : Nat) ≠ 1 by decide), zu_ne (show (5 : Nat) ≠ 1 by decide), zu_ne (show (6 : Nat) ≠ 1 by decide), zu_ne (show (7 : Nat) ≠ 1 by decide), zu_ne (show (8 : Nat) ≠ 1 by decide), zu_ne (show (9 : Nat) ≠ 1 by decide)]
    · intro h; simp only [zPM_150, zu_ne (show (0 : Nat) ≠ 1 by decide), zu_ne (show (2 : Nat) ≠ 1 by decide), zu_ne (show (3 : Nat) ≠ 1 by decide), zu_ne (show (4 : Nat) ≠ 1 by decide), zu_ne (show (5 : Nat) ≠ 1 by decide), zu_ne (show (6 : Nat) ≠ 1 by decide), zu_ne (show (7 : Nat) ≠ 1 by decide), zu_ne (show (8 : Nat) ≠ 1 by decide), zu_ne (show (9 : Nat) ≠ 1 by decide)]
    · intro h; simp only [zPM_151, zu_ne (show (0 : Nat) ≠ 1 by decide), zu_ne (show (2 : Nat) ≠ 1 by decide), zu_ne (show (3 : Nat) ≠ 1 by decide), zu_ne (show (4 : Nat) ≠ 1 by decide), zu_ne (show (5 : Nat) ≠ 1 by decide), zu_ne (show (6 : Nat) ≠ 1 by decide), zu_ne (show (7 : Nat) ≠ 1 by decide), zu_ne (show (8 : Nat) ≠ 1 by decide), zu_ne (show (9 : Nat) ≠ 1 by decide)]
    · intro h; simp only [zPM_152, zu_ne (show (0 : Nat) ≠ 1 by decide), zu_ne (show (2 : Nat) ≠ 1 by decide), zu_ne (show (3 : Nat) ≠ 1 by decide), zu_ne (show (4 : Nat) ≠ 1 by decide), zu_ne (show (5 : Nat) ≠ 1 by decide), zu_ne (show (6 : Nat) ≠ 1 by decide), zu_ne (show (7 : Nat) ≠ 1 by decide), zu_ne (show (8 : Nat) ≠ 1 by decide), zu_ne (show (9 : Nat) ≠ 1 by decide)]
    · intro h; simp only [zPM_153, zu_ne (show (0 : Nat) ≠ 1 by decide), zu_ne (show (2 : Nat) ≠ 1 by decide), zu_ne (show (3 : Nat) ≠ 1 by decide), zu_ne (show (4 : Nat) ≠ 1 by decide), zu_ne (show (5 : Nat) ≠ 1 by decide), zu_ne (show (6 : Nat) ≠ 1 by decide), zu_ne (show (7 : Nat) ≠ 1 by decide), zu_ne (show (8 : Nat) ≠ 1 by decide), zu_ne (show (9 : Nat) ≠ 1 by decide)]
    · intro h; simp only [zPM_154, zu_ne (show (0 : Nat) ≠ 1 by decide), zu_ne (show (2 : Nat) ≠ 1 by decide), zu_ne (show (3 : Nat) ≠ 1 by decide), zu_ne (show (4 : Nat) ≠ 1 by decide), zu_ne (show (5 : Nat) ≠ 1 by decide), zu_ne (show (6 : Nat) ≠ 1 by decide), zu_ne (show (7 : Nat) ≠ 1 by decide), zu_ne (show (8 : Nat) ≠ 1 by decide), zu_ne (show (9 : Nat) ≠ 1 by decide)]
    · intro h; simp only [zPM_155, zu_ne (show (0 : Nat) ≠ 1 by decide), zu_ne (show (2 : Nat) ≠ 1 by decide), zu_ne (show (3 : Nat) ≠ 1 by decide), zu_ne (show (4 : Nat) ≠ 1 by decide), zu_ne (show (5 : Nat) ≠ 1 by decide), zu_ne (show (6 : Nat) ≠ 1 by decide), zu_ne (show (7 : Nat) ≠ 1 by decide), zu_ne (show (8 : Nat) ≠ 1 by decide), zu_ne (show (9 : Nat) ≠ 1 by decide)]
    · intro h; exact absurd rfl h
    · intro h; simp only [zPM_157, zu_ne (show (0 : Nat) ≠ 1 by decide), zu_ne (show (2 : Nat) ≠ 1 by decide), zu_ne (show (3 : Nat) ≠ 1 by decide), zu_ne (show (4 : Nat) ≠ 1 by decide), zu_ne (show (5 : Nat) ≠ 1 by decide), zu_ne (show (6 : Nat) ≠ 1 by decide), zu_ne (show (7 : Nat) ≠ 1 by decide), zu_ne (show (8 : Nat) ≠ 1 by decide), zu_ne (show (9 : Nat) ≠ 1 by decide)]
    · intro h; simp only [zPM_158, zu_ne (show (0 : Nat) ≠ 1 by decide), zu_ne (show (2 : Nat) ≠ 1 by decide), zu_ne (show (3 : Nat) ≠ 1 by decide), zu_ne (show (4 : Nat) ≠ 1 by decide), zu_ne (show (5 : Nat) ≠ 1 by decide), zu_ne (show (6 : Nat) ≠ 1 by decide), zu_ne (show (7 : Nat) ≠ 1 by decide), zu_ne (show (8 : Nat) ≠ 1 by decide), zu_ne (show (9 : Nat) ≠ 1 by decide)]
theorem zPM_u152 {N s : Nat} {W : Nat → Nat → Int32} {r : Int32} {ia : Nat → Nat → Int32} {i : Nat} {u : Int32} (hi : i < 3 * N) (hN : N ≤ 6) : zu (zPM N s W r ia) 152 (18 * s + i) (u) = zPM N s (zu W 2 (i) (u)) r ia := by
  refine zPM_one 152 (by omega) ?_ ?_
  · rw [zPM_152, zPM_152, zrB_u (show i < 18 by omega)]
    congr 1
    funext q
    rw [zu_self]
    unfold va_up
    by_cases e : q = i
    · rw [if_pos e, if_pos e, if_pos (by omega)]
    · rw [if_neg e, if_neg e]
  · refine zPM_12 (P := fun c' => c' ≠ 152 → zPM N s W r ia c' = zPM N s (zu W 2 (i) (u)) r ia c') ?_ ?_ ?_ ?_ ?_ ?_ ?_ ?_ ?_ ?_ ?_ ?_
    · intro h; simp only [zPM_147, zu_ne (show (0 : Nat) ≠ 2 by decide), zu_ne (show (1 : Nat) ≠ 2 by decide), zu_ne (show (3 : Nat) ≠ 2 by decide), zu_ne (show (4 : Nat) ≠ 2 by decide), zu_ne (show (5 : Nat) ≠ 2 by decide), zu_ne (show (6 : Nat) ≠ 2 by decide), zu_ne (show (7 : Nat) ≠ 2 by decide), zu_ne (show (8 : Nat) ≠ 2 by decide), zu_ne (show (9 : Nat) ≠ 2 by decide)]
    · intro h; simp only [zPM_148]
    · intro h; simp only [zPM_149, zu_ne (show (0 : Nat) ≠ 2 by decide), zu_ne (show (1 : Nat) ≠ 2 by decide), zu_ne (show (3 : Nat) ≠ 2 by decide), zu_ne (show (4 : Nat) ≠ 2 by decide), zu_ne (show (5 : Nat) ≠ 2 by decide), zu_ne (show (6 : Nat) ≠ 2 by decide), zu_ne (show (7 : Nat) ≠ 2 by decide), zu_ne (show (8 : Nat) ≠ 2 by decide), zu_ne (show (9 : Nat) ≠ 2 by decide)]
    · intro h; simp only [zPM_150, zu_ne (show (0 : Nat) ≠ 2 by decide), zu_ne (show (1 : Nat) ≠ 2 by decide), zu_ne (show (3 : Nat) ≠ 2 by decide), zu_ne (show (4 : Nat) ≠ 2 by decide), zu_ne (show (5 : Nat) ≠ 2 by decide), zu_ne (show (6 : Nat) ≠ 2 by decide), zu_ne (show (7 : Nat) ≠ 2 by decide), zu_ne (show (8 : Nat) ≠ 2 by decide), zu_ne (show (9 : Nat) ≠ 2 by decide)]
    · intro h; simp only [zPM_151, zu_ne (show (0 : Nat) ≠ 2 by decide), zu_ne (show (1 : Nat) ≠ 2 by decide), zu_ne (show (3 : Nat) ≠ 2 by decide), zu_ne (show (4 : Nat) ≠ 2 by decide), zu_ne (show (5 : Nat) ≠ 2 by decide), zu_ne (show (6 : Nat) ≠ 2 by decide), zu_ne (show (7 : Nat) ≠ 2 by decide), zu_ne (show (8 : Nat) ≠ 2 by decide), zu_ne (show (9 : Nat) ≠ 2 by decide)]
    · intro h; exact absurd rfl h
    · intro h; simp only [zPM_153, zu_ne (show (0 : Nat) ≠ 2 by decide), zu_ne (show (1 : Nat) ≠ 2 by decide), zu_ne (show (3 : Nat) ≠ 2 by decide), zu_ne (show (4 : Nat) ≠ 2 by decide), zu_ne (show (5 : Nat) ≠ 2 by decide), zu_ne (show (6 : Nat) ≠ 2 by decide), zu_ne (show (7 : Nat) ≠ 2 by decide), zu_ne (show (8 : Nat) ≠ 2 by decide), zu_ne (show (9 : Nat) ≠ 2 by decide)]
    · intro h; simp only [zPM_154, zu_ne (show (0 : Nat) ≠ 2 by decide), zu_ne (show (1 : Nat) ≠ 2 by decide), zu_ne (show (3 : Nat) ≠ 2 by decide), zu_ne (show (4 : Nat) ≠ 2 by decide), zu_ne (show (5 : Nat) ≠ 2 by decide), zu_ne (show (6 : Nat) ≠ 2 by decide), zu_ne (show (7 : Nat) ≠ 2 by decide), zu_ne (show (8 : Nat) ≠ 2 by decide), zu_ne (show (9 : Nat) ≠ 2 by decide)]
    · intro h; simp only [zPM_155, zu_ne (show (0 : Nat) ≠ 2 by decide), zu_ne (show (1 : Nat) ≠ 2 by decide), zu_ne (show (3 : Nat) ≠ 2 by decide), zu_ne (show (4 : Nat) ≠ 2 by decide), zu_ne (show (5 : Nat) ≠ 2 by decide), zu_ne (show (6 : Nat) ≠ 2 by decide), zu_ne (show (7 : Nat) ≠ 2 by decide), zu_ne (show (8 : Nat) ≠ 2 by decide), zu_ne (show (9 : Nat) ≠ 2 by decide)]
    · intro h; simp only [zPM_156, zu_ne (show (0 : Nat) ≠ 2 by decide), zu_ne (show (1 : Nat) ≠ 2 by decide), zu_ne (show (3 : Nat) ≠ 2 by decide), zu_ne (show (4 : Nat) ≠ 2 by decide), zu_ne (show (5 : Nat) ≠ 2 by decide), zu_ne (show (6 : Nat) ≠ 2 by decide), zu_ne (show (7 : Nat) ≠ 2 by decide), zu_ne (show (8 : Nat) ≠ 2 by decide), zu_ne (show (9 : Nat) ≠ 2 by decide)]
    · intro h; simp only [zPM_157, zu_ne (show (0 : Nat) ≠ 2 by decide), zu_ne (show (1 : Nat) ≠ 2 by decide), zu_ne (show (3 : Nat) ≠ 2 by decide), zu_ne (show (4 : Nat) ≠ 2 by decide), zu_ne (show (5 : Nat) ≠ 2 by decide), zu_ne (show (6 : Nat) ≠ 2 by decide), zu_ne (show (7 : Nat) ≠ 2 by decide), zu_ne (show (8 : Nat) ≠ 2 by decide), zu_ne (show (9 : Nat) ≠ 2 by decide)]
    · intro h; simp only [zPM_158, zu_ne (show (0 : Nat) ≠ 2 by decide), zu_ne (show (1 : Nat) ≠ 2 by decide), zu_ne (show (3 : Nat) ≠ 2 by decide), zu_ne (show (4 : Nat) ≠ 2 by decide), zu_ne (show (5 : Nat) ≠ 2 by decide), zu_ne (show (6 : Nat) ≠ 2 by decide), zu_ne (show (7 : Nat) ≠ 2 by decide), zu_ne (show (8 : Nat) ≠ 2 by decide), zu_ne (show (9 : Nat) ≠ 2 by decide)]
theorem zPM_u147 {N s : Nat} {W : Nat → Nat → Int32} {r : Int32} {ia : Nat → Nat → Int32} {u : Int32} : zu (zPM N s W r ia) 147 (s) (u) = zPM N s (zu W 0 (0) (u)) r ia := by
  refine zPM_one 147 (by omega) ?_ ?_
  · rw [zPM_147, zPM_147, zrS_u, zu_eq]
  · refine zPM_12 (P := fun c' => c' ≠ 147 → zPM N s W r ia c' = zPM N s (zu W 0 (0) (u)) r ia c') ?_ ?_ ?_ ?_ ?_ ?_ ?_ ?_ ?_ ?_ ?_ ?_
    · intro h; exact absurd rfl h
    · intro h; simp only [zPM_148]
    · intro h; simp only [zPM_149, zu_k (show 14 ≠ 0 by decide)]
    · intro h; simp only [zPM_150, zu_ne (show (1 : Nat) ≠ 0 by decide), zu_ne (show (2 : Nat) ≠ 0 by decide), zu_ne (show (3 : Nat) ≠ 0 by decide), zu_ne (show (4 : Nat) ≠ 0 by decide), zu_ne (show (5 : Nat) ≠ 0 by decide), zu_ne (show (6 : Nat) ≠ 0 by decide), zu_ne (show (7 : Nat) ≠ 0 by decide), zu_ne (show (8 : Nat) ≠ 0 by decide), zu_ne (show (9 : Nat) ≠ 0 by decide)]
    · intro h; simp only [zPM_151, zu_ne (show (1 : Nat) ≠ 0 by decide), zu_ne (show (2 : Nat) ≠ 0 by decide), zu_ne (show (3 : Nat) ≠ 0 by decide), zu_ne (show (4 : Nat) ≠ 0 by decide), zu_ne (show (5 : Nat) ≠ 0 by decide), zu_ne (show (6 : Nat) ≠ 0 by decide), zu_ne (show (7 : Nat) ≠ 0 by decide), zu_ne (show (8 : Nat) ≠ 0 by decide), zu_ne (show (9 : Nat) ≠ 0 by decide)]
    · intro h; simp only [zPM_152, zu_ne (show (1 : Nat) ≠ 0 by decide), zu_ne (show (2 : Nat) ≠ 0 by decide), zu_ne (show (3 : Nat) ≠ 0 by decide), zu_ne (show (4 : Nat) ≠ 0 by decide), zu_ne (show (5 : Nat) ≠ 0 by decide), zu_ne (show (6 : Nat) ≠ 0 by decide), zu_ne (show (7 : Nat) ≠ 0 by decide), zu_ne (show (8 : Nat) ≠ 0 by decide), zu_ne (show (9 : Nat) ≠ 0 by decide)]
    · intro h; simp only [zPM_153, zu_ne (show (1 : Nat) ≠ 0 by decide), zu_ne (show (2 : Nat) ≠ 0 by decide), zu_ne (show (3 : Nat) ≠ 0 by decide), zu_ne (show (4 : Nat) ≠ 0 by decide), zu_ne (show (5 : Nat) ≠ 0 by decide), zu_ne (show (6 : Nat) ≠ 0 by decide), zu_ne (show (7 : Nat) ≠ 0 by decide), zu_ne (show (8 : Nat) ≠ 0 by decide), zu_ne (show (9 : Nat) ≠ 0 by decide)]
    · intro h; simp only [zPM_154, zu_ne (show (1 : Nat) ≠ 0 by decide), zu_ne (show (2 : Nat) ≠ 0 by decide), zu_ne (show (3 : Nat) ≠ 0 by decide), zu_ne (show (4 : Nat) ≠ 0 by decide), zu_ne (show (5 : Nat) ≠ 0 by decide), zu_ne (show (6 : Nat) ≠ 0 by decide), zu_ne (show (7 : Nat) ≠ 0 by decide), zu_ne (show (8 : Nat) ≠ 0 by decide), zu_ne (show (9 : Nat) ≠ 0 by decide)]
    · intro h; simp only [zPM_155, zu_ne (show (1 : Nat) ≠ 0 by decide), zu_ne (show (2 : Nat) ≠ 0 by decide), zu_ne (show (3 : Nat) ≠ 0 by decide), zu_ne (show (4 : Nat) ≠ 0 by decide), zu_ne (show (5 : Nat) ≠ 0 by decide), zu_ne (show (6 : Nat) ≠ 0 by decide), zu_ne (show (7 : Nat) ≠ 0 by decide), zu_ne (show (8 : Nat) ≠ 0 by decide), zu_ne (show (9 : Nat) ≠ 0 by decide)]
    · intro h; simp only [zPM_156, zu_ne (show (1 : Nat) ≠ 0 by decide), zu_ne (show (2 : Nat) ≠ 0 by decide), zu_ne (show (3 : Nat) ≠ 0 by decide), zu_ne (show (4 : Nat) ≠ 0 by decide), zu_ne (show (5 : Nat) ≠ 0 by decide), zu_ne (show (6 : Nat) ≠ 0 by decide), zu_ne (show (7 : Nat) ≠ 0 by decide), zu_ne (show (8 : Nat) ≠ 0 by decide), zu_ne (show (9 : Nat) ≠ 0 by decide)]
    · intro h; simp only [zPM_157, zu_ne (show (1 : Nat) ≠ 0 by decide), zu_ne (show (2 : Nat) ≠ 0 by decide), zu_ne (show (3 : Nat) ≠ 0 by decide), zu_ne (show (4 : Nat) ≠ 0 by decide), zu_ne (show (5 : Nat) ≠ 0 by decide), zu_ne (show (6 : Nat) ≠ 0 by decide), zu_ne (show (7 : Nat) ≠ 0 by decide), zu_ne (show (8 : Nat) ≠ 0 by decide), zu_ne (show (9 : Nat) ≠ 0 by decide)]
    · intro h; simp only [zPM_158, zu_ne (show (1 : Nat) ≠ 0 by decide), zu_ne (show (2 : Nat) ≠ 0 by decide), zu_ne (show (3 : Nat) ≠ 0 by decide), zu_ne (show (4 : Nat) ≠ 0 by decide), zu_ne (show (5 : Nat) ≠ 0 by decide), zu_ne (show (6 : Nat) ≠ 0 by decide), zu_ne (show (7 : Nat) ≠ 0 by decide), zu_ne (show (8 : Nat) ≠ 0 by decide), zu_ne (show (9 : Nat) ≠ 0 by decide)]
theorem zPM_u149 {N s : Nat} {W : Nat → Nat → Int32} {r : Int32} {ia : Nat → Nat → Int32} {u : Int32} : zu (zPM N s W r ia) 149 (s) (u) = zPM N s (zu W 0 (14) (u)) r ia := by
  refine zPM_one 149 (by omega) ?_ ?_
  · rw [zPM_149, zPM_149, zrS_u, zu_eq]
  · refine zPM_12 (P := fun c' => c' ≠ 149 → zPM N s W r ia c' = zPM N s (zu W 0 (14) (u)) r ia c') ?_ ?_ ?_ ?_ ?_ ?_ ?_ ?_ ?_ ?_ ?_ ?_
    · intro h; simp only [zPM_147, zu_k (show 0 ≠ 14 by decide)]
    · intro h; simp only [zPM_148]
    · intro h; exact absurd rfl h
    · intro h; simp only [zPM_150, zu_ne (show (1 : Nat) ≠ 0 by decide), zu_ne (show (2 : Nat) ≠ 0 by decide), zu_ne (show (3 : Nat) ≠ 0 by decide), zu_ne (show (4 : Nat) ≠ 0 by decide), zu_ne (show (5 : Nat) ≠ 0 by decide), zu_ne (show (6 : Nat) ≠ 0 by decide), zu_ne (show (7 : Nat) ≠ 0 by decide), zu_ne (show (8 : Nat) ≠ 0 by decide), zu_ne (show (9 : Nat) ≠ 0 by decide)]
    · intro h; simp only [zPM_151, zu_ne (show (1 : Nat) ≠ 0 by decide), zu_ne (show (2 : Nat) ≠ 0 by decide), zu_ne (show (3 : Nat) ≠ 0 by decide), zu_ne (show (4 : Nat) ≠ 0 by decide), zu_ne (show (5 : Nat) ≠ 0 by decide), zu_ne (show (6 : Nat) ≠ 0 by decide), zu_ne (show (7 : Nat) ≠ 0 by decide), zu_ne (show (8 : Nat) ≠ 0 by decide), zu_ne (show (9 : Nat) ≠ 0 by decide)]
    · intro h; simp only [zPM_152, zu_ne (show (1 : Nat) ≠ 0 by decide), zu_ne (show (2 : Nat) ≠ 0 by decide), zu_ne (show (3 : Nat) ≠ 0 by decide), zu_ne (show (4 : Nat) ≠ 0 by decide), zu_ne (show (5 : Nat) ≠ 0 by decide), zu_ne (show (6 : Nat) ≠ 0 by decide), zu_ne (show (7 : Nat) ≠ 0 by decide), zu_ne (show (8 : Nat) ≠ 0 by decide), zu_ne (show (9 : Nat) ≠ 0 by decide)]
    · intro h; simp only [zPM_153, zu_ne (show (1 : Nat) ≠ 0 by decide), zu_ne (show (2 : Nat) ≠ 0 by decide), zu_ne (show (3 : Nat) ≠ 0 by decide), zu_ne (show (4 : Nat) ≠ 0 by decide), zu_ne (show (5 : Nat) ≠ 0 by decide), zu_ne (show (6 : Nat) ≠ 0 by decide), zu_ne (show (7 : Nat) ≠ 0 by decide), zu_ne (show (8 : Nat) ≠ 0 by decide), zu_ne (show (9 : Nat) ≠ 0 by decide)]
    · intro h; simp only [zPM_154, zu_ne (show (1 : Nat) ≠ 0 by decide), zu_ne (show (2 : Nat) ≠ 0 by decide), zu_ne (show (3 : Nat) ≠ 0 by decide), zu_ne (show (4 : Nat) ≠ 0 by decide), zu_ne (show (5 : Nat) ≠ 0 by decide), zu_ne (show (6 : Nat) ≠ 0 by decide), zu_ne (show (7 : Nat) ≠ 0 by decide), zu_ne (show (8 : Nat) ≠ 0 by decide), zu_ne (show (9 : Nat) ≠ 0 by decide)]
    · intro h; simp only [zPM_155, zu_ne (show (1 : Nat) ≠ 0 by decide), zu_ne (show (2 : Nat) ≠ 0 by decide), zu_ne (show (3 : Nat) ≠ 0 by decide), zu_ne (show (4 : Nat) ≠ 0 by decide), zu_ne (show (5 : Nat) ≠ 0 by decide), zu_ne (show (6 : Nat) ≠ 0 by decide), zu_ne (show (7 : Nat) ≠ 0 by decide), zu_ne (show (8 : Nat) ≠ 0 by decide), zu_ne (show (9 : Nat) ≠ 0 by decide)]
    · intro h; simp only [zPM_156, zu_ne (show (1 : Nat) ≠ 0 by decide), zu_ne (show (2 : Nat) ≠ 0 by decide), zu_ne (show (3 : Nat) ≠ 0 by decide), zu_ne (show (4 : Nat) ≠ 0 by decide), zu_ne (show (5 : Nat) ≠ 0 by decide), zu_ne (show (6 : Nat) ≠ 0 by decide), zu_ne (show (7 : Nat) ≠ 0 by decide), zu_ne (show (8 : Nat) ≠ 0 by decide), zu_ne (show (9 : Nat) ≠ 0 by decide)]
    · intro h; simp only [zPM_157, zu_ne (show (1 : Nat) ≠ 0 by decide), zu_ne (show (2 : Nat) ≠ 0 by decide), zu_ne (show (3 : Nat) ≠ 0 by decide), zu_ne (show (4 : Nat) ≠ 0 by decide), zu_ne (show (5 : Nat) ≠ 0 by decide), zu_ne (show (6 : Nat) ≠ 0 by decide), zu_ne (show (7 : Nat) ≠ 0 by decide), zu_ne (show (8 : Nat) ≠ 0 by decide), zu_ne (show (9 : Nat) ≠ 0 by decide)]
    · intro h; simp only [zPM_158, zu_ne (show (1 : Nat) ≠ 0 by decide), zu_ne (show (2 : Nat) ≠ 0 by decide), zu_ne (show (3 : Nat) ≠ 0 by decide), zu_ne (show (4 : Nat) ≠ 0 by decide), zu_ne (show (5 : Nat) ≠ 0 by decide), zu_ne (show (6 : Nat) ≠ 0 by decide), zu_ne (show (7 : Nat) ≠ 0 by decide), zu_ne (show (8 : Nat) ≠ 0 by decide), zu_ne (show (9 : Nat) ≠ 0 by decide)]
theorem zPM_u150 {N s : Nat} {W : Nat → Nat → Int32} {r : Int32} {ia : Nat → Nat → Int32} {k : Nat} (hk : k < 12) : zu (zPM N s W r ia) 150 (s) (zbt (W 7) ||| (1 <<< (nI k &&& 31))) = zPM N s (zu W 7 (k) (1)) r ia := by
  refine zPM_one 150 (by omega) ?_ ?_
  · rw [zPM_150, zPM_150, zrS_u, zu_self, zbt_up hk]
  · refine zPM_12 (P := fun c' => c' ≠ 150 → zPM N s W r ia c' = zPM N s (zu W 7 (k) (1)) r ia c') ?_ ?_ ?_ ?_ ?_ ?_ ?_ ?_ ?_ ?_ ?_ ?_
    · intro h; simp only [zPM_147, zu_ne (show (0 : Nat) ≠ 7 by decide), zu_ne (show (1 : Nat) ≠ 7 by decide), zu_ne (show (2 : Nat) ≠ 7 by decide), zu_ne (show (3 : Nat) ≠ 7 by decide), zu_ne (show (4 : Nat) ≠ 7 by decide), zu_ne (show (5 : Nat) ≠ 7 by decide), zu_ne (show (6 : Nat) ≠ 7 by decide), zu_ne (show (8 : Nat) ≠ 7 by decide), zu_ne (show (9 : Nat) ≠ 7 by decide)]
    · intro h; simp only [zPM_148]
    · intro h; simp only [zPM_149, zu_ne (show (0 : Nat) ≠ 7 by decide), zu_ne (show (1 : Nat) ≠ 7 by decide), zu_ne (show (2 : Nat) ≠ 7 by decide), zu_ne (show (3 : Nat) ≠ 7 by decide), zu_ne (show (4 : Nat) ≠ 7 by decide), zu_ne (show (5 : Nat) ≠ 7 by decide), zu_ne (show (6 : Nat) ≠ 7 by decide), zu_ne (show (8 : Nat) ≠ 7 by decide), zu_ne (show (9 : Nat) ≠ 7 by decide)]
    · intro h; exact absurd rfl h
    · intro h; simp only [zPM_151, zu_ne (show (0 : Nat) ≠ 7 by decide), zu_ne (show (1 : Nat) ≠ 7 by decide), zu_ne (show (2 : Nat) ≠ 7 by decide), zu_ne (show (3 : Nat) ≠ 7 by decide), zu_ne (show (4 : Nat) ≠ 7 by decide), zu_ne (show (5 : Nat) ≠ 7 by decide), zu_ne (show (6 : Nat) ≠ 7 by decide), zu_ne (show (8 : Nat) ≠ 7 by decide), zu_ne (show (9 : Nat) ≠ 7 by decide)]
    · intro h; simp only [zPM_152, zu_ne (show (0 : Nat) ≠ 7 by decide), zu_ne (show (1 : Nat) ≠ 7 by decide), zu_ne (show (2 : Nat) ≠ 7 by decide), zu_ne (show (3 : Nat) ≠ 7 by decide), zu_ne (show (4 : Nat) ≠ 7 by decide), zu_ne (show (5 : Nat) ≠ 7 by decide), zu_ne (show (6 : Nat) ≠ 7 by decide), zu_ne (show (8 : Nat) ≠ 7 by decide), zu_ne (show (9 : Nat) ≠ 7 by decide)]
    · intro h; simp only [zPM_153, zu_ne (show (0 : Nat) ≠ 7 by decide), zu_ne (show (1 : Nat) ≠ 7 by decide), zu_ne (show (2 : Nat) ≠ 7 by decide), zu_ne (show (3 : Nat) ≠ 7 by decide), zu_ne (show (4 : Nat) ≠ 7 by decide), zu_ne (show (5 : Nat) ≠ 7 by decide), zu_ne (show (6 : Nat) ≠ 7 by decide), zu_ne (show (8 : Nat) ≠ 7 by decide), zu_ne (show (9 : Nat) ≠ 7 by decide)]
    · intro h; simp only [zPM_154, zu_ne (show (0 : Nat) ≠ 7 by decide), zu_ne (show (1 : Nat) ≠ 7 by decide), zu_ne (show (2 : Nat) ≠ 7 by decide), zu_ne (show (3 : Nat) ≠ 7 by decide), zu_ne (show (4 : Nat) ≠ 7 by decide), zu_ne (show (5 : Nat) ≠ 7 by decide), zu_ne (show (6 : Nat) ≠ 7 by decide), zu_ne (show (8 : Nat) ≠ 7 by decide), zu_ne (show (9 : Nat) ≠ 7 by decide)]
    · intro h; simp only [zPM_155, zu_ne (show (0 : Nat) ≠ 7 by decide), zu_ne (show (1 : Nat) ≠ 7 by decide), zu_ne (show (2 : Nat) ≠ 7 by decide), zu_ne (show (3 : Nat) ≠ 7 by decide), zu_ne (show (4 : Nat) ≠ 7 by decide), zu_ne (show (5 : Nat) ≠ 7 by decide), zu_ne (show (6 : Nat) ≠ 7 by decide), zu_ne (show (8 : Nat) ≠ 7 by decide), zu_ne (show (9 : Nat) ≠ 7 by decide)]
    · intro h; simp only [zPM_156, zu_ne (show (0 : Nat) ≠ 7 by decide), zu_ne (show (1 : Nat) ≠ 7 by decide), zu_ne (show (2 : Nat) ≠ 7 by decide), zu_ne (show (3 : Nat) ≠ 7 by decide), zu_ne (show (4 : Nat) ≠ 7 by decide), zu_ne (show (5 : Nat) ≠ 7 by decide), zu_ne (show (6 : Nat) ≠ 7 by decide), zu_ne (show (8 : Nat) ≠ 7 by decide), zu_ne (show (9 : Nat) ≠ 7 by decide)]
    · intro h; simp only [zPM_157, zu_ne (show (0 : Nat) ≠ 7 by decide), zu_ne (show (1 : Nat) ≠ 7 by decide), zu_ne (show (2 : Nat) ≠ 7 by decide), zu_ne (show (3 : Nat) ≠ 7 by decide), zu_ne (show (4 : Nat) ≠ 7 by decide), zu_ne (show (5 : Nat) ≠ 7 by decide), zu_ne (show (6 : Nat) ≠ 7 by decide), zu_ne (show (8 : Nat) ≠ 7 by decide), zu_ne (show (9 : Nat) ≠ 7 by decide)]
    · intro h; simp only [zPM_158, zu_ne (show (0 : Nat) ≠ 7 by decide), zu_ne (show (1 : Nat) ≠ 7 by decide), zu_ne (show (2 : Nat) ≠ 7 by decide), zu_ne (show (3 : Nat) ≠ 7 by decide), zu_ne (show (4 : Nat) ≠ 7 by decide), zu_ne (show (5 : Nat) ≠ 7 by decide), zu_ne (show (6 : Nat) ≠ 7 by decide), zu_ne (show (8 : Nat) ≠ 7 by decide), zu_ne (show (9 : Nat) ≠ 7 by decide)]
theorem zPM_u151 {N s : Nat} {W : Nat → Nat → Int32} {r : Int32} {ia : Nat → Nat → Int32} {k : Nat} (hk : k < 12) : zu (zPM N s W r ia) 151 (s) (zbt (W 8) ||| (1 <<< (nI k &&& 31))) = zPM N s (zu W 8 (k) (1)) r ia := by
  refine zPM_one 151 (by omega) ?_ ?_
  · rw [zPM_151, zPM_151, zrS_u, zu_self, zbt_up hk]
  · refine zPM_12 (P := fun c' => c' ≠ 151 → zPM N s W r ia c' = zPM N s (zu W 8 (k) (1)) r ia c') ?_ ?_ ?_ ?_ ?_ ?_ ?_ ?_ ?_ ?_ ?_ ?_
    · intro h; simp only [zPM_147, zu_ne (show (0 : Nat) ≠ 8 by decide), zu_ne (show (1 : Nat) ≠ 8 by decide), zu_ne (show (2 : Nat) ≠ 8 by decide), zu_ne (show (3 : Nat) ≠ 8 by decide), zu_ne (show (4 : Nat) ≠ 8 by decide), zu_ne (show (5 : Nat) ≠ 8 by decide), zu_ne (show (6 : Nat) ≠ 8 by decide), zu_ne (show (7 : Nat) ≠ 8 by decide), zu_ne (show (9 : Nat) ≠ 8 by decide)]
    · intro h; simp only [zPM_148]
    · intro h; simp only [zPM_149, zu_ne (show (0 : Nat) ≠ 8 by decide), zu_ne (show (1 : Nat) ≠ 8 by decide), zu_ne (show (2 : Nat) ≠ 8 by decide), zu_ne (show (3 : Nat) ≠ 8 by decide), zu_ne (show (4 : Nat) ≠ 8 by decide), zu_ne (show (5 : Nat) ≠ 8 by decide), zu_ne (show (6 : Nat) ≠ 8 by decide), zu_ne (show (7 : Nat) ≠ 8 by decide), zu_ne (show (9 : Nat) ≠ 8 by decide)]
    · intro h; simp only [zPM_150, zu_ne (show (0 : Nat) ≠ 8 by decide), zu_ne (show (1 : Nat) ≠ 8 by decide), zu_ne (show (2 : Nat) ≠ 8 by decide), zu_ne (show (3 : Nat) ≠ 8 by decide), zu_ne (show (4 : Nat) ≠ 8 by decide), zu_ne (show (5 : Nat) ≠ 8 by decide), zu_ne (show (6 : Nat) ≠ 8 by decide), zu_ne (show (7 : Nat) ≠ 8 by decide), zu_ne (show (9 : Nat) ≠ 8 by decide)]
    · intro h; exact absurd rfl h
    · intro h; simp only [zPM_152, zu_ne (show (0 : Nat) ≠ 8 by decide), zu_ne (show (1 : Nat) ≠ 8 by decide), zu_ne (show (2 : Nat) ≠ 8 by decide), zu_ne (show (3 : Nat) ≠ 8 by decide), zu_ne (show (4 : Nat) ≠ 8 by decide), zu_ne (show (5 : Nat) ≠ 8 by decide), zu_ne (show (6 : Nat) ≠ 8 by decide), zu_ne (show (7 : Nat) ≠ 8 by decide), zu_ne (show (9 : Nat) ≠ 8 by decide)]
    · intro h; simp only [zPM_153, zu_ne (show (0 : Nat) ≠ 8 by decide), zu_ne (show (1 : Nat) ≠ 8 by decide), zu_ne (show (2 : Nat) ≠ 8 by decide), zu_ne (show (3 : Nat) ≠ 8 by decide), zu_ne (show (4 : Nat) ≠ 8 by decide), zu_ne (show (5 : Nat) ≠ 8 by decide), zu_ne (show (6 : Nat) ≠ 8 by decide), zu_ne (show (7 : Nat) ≠ 8 by decide), zu_ne (show (9 : Nat) ≠ 8 by decide)]
    · intro h; simp only [zPM_154, zu_ne (show (0 : Nat) ≠ 8 by decide), zu_ne (show (1 : Nat) ≠ 8 by decide), zu_ne (show (2 : Nat) ≠ 8 by decide), zu_ne (show (3 : Nat) ≠ 8 by decide), zu_ne (show (4 : Nat) ≠ 8 by decide), zu_ne (show (5 : Nat) ≠ 8 by decide), zu_ne (show (6 : Nat) ≠ 8 by decide), zu_ne (show (7 : Nat) ≠ 8 by decide), zu_ne (show (9 : Nat) ≠ 8 by decide)]
    · intro h; simp only [zPM_155, zu_ne (show (0 : Nat) ≠ 8 by decide), zu_ne (show (1 : Nat) ≠ 8 by decide), zu_ne (show (2 : Nat) ≠ 8 by decide), zu_ne (show (3 : Nat) ≠ 8 by decide), zu_ne (show (4 : Nat) ≠ 8 by decide), zu_ne (show (5 : Nat) ≠ 8 by decide), zu_ne (show (6 : Nat) ≠ 8 by decide), zu_ne (show (7 : Nat) ≠ 8 by decide), zu_ne (show (9 : Nat) ≠ 8 by decide)]
    · intro h; simp only [zPM_156, zu_ne (show (0 : Nat) ≠ 8 by decide), zu_ne (show (1 : Nat) ≠ 8 by decide), zu_ne (show (2 : Nat) ≠ 8 by decide), zu_ne (show (3 : Nat) ≠ 8 by decide), zu_ne (show (4 : Nat) ≠ 8 by decide), zu_ne (show (5 : Nat) ≠ 8 by decide), zu_ne (show (6 : Nat) ≠ 8 by decide), zu_ne (show (7 : Nat) ≠ 8 by decide), zu_ne (show (9 : Nat) ≠ 8 by decide)]
    · intro h; simp only [zPM_157, zu_ne (show (0 : Nat) ≠ 8 by decide), zu_ne (show (1 : Nat) ≠ 8 by decide), zu_ne (show (2 : Nat) ≠ 8 by decide), zu_ne (show (3 : Nat) ≠ 8 by decide), zu_ne (show (4 : Nat) ≠ 8 by decide), zu_ne (show (5 : Nat) ≠ 8 by decide), zu_ne (show (6 : Nat) ≠ 8 by decide), zu_ne (show (7 : Nat) ≠ 8 by decide), zu_ne (show (9 : Nat) ≠ 8 by decide)]
    · intro h; simp only [zPM_158, zu_ne (show (0 : Nat) ≠ 8 by decide), zu_ne (show (1 : Nat) ≠ 8 by decide), zu_ne (show (2 : Nat) ≠ 8 by decide), zu_ne (show (3 : Nat) ≠ 8 by decide), zu_ne (show (4 : Nat) ≠ 8 by decide), zu_ne (show (5 : Nat) ≠ 8 by decide), zu_ne (show (6 : Nat) ≠ 8 by decide), zu_ne (show (7 : Nat) ≠ 8 by decide), zu_ne (show (9 : Nat) ≠ 8 by decide)]
theorem zPM_u148 {N s : Nat} {W : Nat → Nat → Int32} {r : Int32} {ia : Nat → Nat → Int32} {u : Int32} : zu (zPM N s W r ia) 148 s u = zPM N s W u ia := by
  refine zPM_one 148 (by omega) ?_ ?_
  · rw [zPM_148, zPM_148, zrS_u]
  · refine zPM_12 (P := fun c' => c' ≠ 148 → zPM N s W r ia c' = zPM N s W u ia c') ?_ ?_ ?_ ?_ ?_ ?_ ?_ ?_ ?_ ?_ ?_ ?_
    · intro h; rfl
    · intro h; exact absurd rfl h
    · intro h; rfl
    · intro h; rfl
    · intro h; rfl
    · intro h; rfl
    · intro h; rfl
    · intro h; rfl
    · intro h; rfl
    · intro h; rfl
    · intro h; rfl
    · intro h; rfl
theorem zPM_i11 {N s : Nat} {W : Nat → Nat → Int32} {r : Int32} {ia : Nat → Nat → Int32} {u : Int32} : zPM N s (zu W 0 11 u) r ia = zPM N s W r ia := by
  refine zPM_all ?_ (fun _ _ => rfl)
  refine zPM_12 (P := fun c => zPM N s (zu W 0 11 u) r ia c = zPM N s W r ia c) ?_ ?_ ?_ ?_ ?_ ?_ ?_ ?_ ?_ ?_ ?_ ?_
  · simp only [zPM_147, zu_k (show 0 ≠ 11 by decide)]
  · simp only [zPM_148]
  · simp only [zPM_149, zu_k (show 14 ≠ 11 by decide)]
  · simp only [zPM_150, zu_ne (show (1 : Nat) ≠ 0 by decide), zu_ne (show (2 : Nat) ≠ 0 by decide), zu_ne (show (3 : Nat) ≠ 0 by decide), zu_ne (show (4 : Nat) ≠ 0 by decide), zu_ne (show (5 : Nat) ≠ 0 by decide), zu_ne (show (6 : Nat) ≠ 0 by decide), zu_ne (show (7 : Nat) ≠ 0 by decide), zu_ne (show (8 : Nat) ≠ 0 by decide), zu_ne (show (9 : Nat) ≠ 0 by decide)]
  · simp only [zPM_151, zu_ne (show (1 : Nat) ≠ 0 by decide), zu_ne (show (2 : Nat) ≠ 0 by decide), zu_ne (show (3 : Nat) ≠ 0 by decide), zu_ne (show (4 : Nat) ≠ 0 by decide), zu_ne (show (5 : Nat) ≠ 0 by decide), zu_ne (show (6 : Nat) ≠ 0 by decide), zu_ne (show (7 : Nat) ≠ 0 by decide), zu_ne (show (8 : Nat) ≠ 0 by decide), zu_ne (show (9 : Nat) ≠ 0 by decide)]
  · simp only [zPM_152, zu_ne (show (1 : Nat) ≠ 0 by decide), zu_ne (show (2 : Nat) ≠ 0 by decide), zu_ne (show (3 : Nat) ≠ 0 by decide), zu_ne (show (4 : Nat) ≠ 0 by decide), zu_ne (show (5 : Nat) ≠ 0 by decide), zu_ne (show (6 : Nat) ≠ 0 by decide), zu_ne (show (7 : Nat) ≠ 0 by decide), zu_ne (show (8 : Nat) ≠ 0 by decide), zu_ne (show (9 : Nat) ≠ 0 by decide)]
  · simp only [zPM_153, zu_ne (show (1 : Nat) ≠ 0 by decide), zu_ne (show (2 : Nat) ≠ 0 by decide), zu_ne (show (3 : Nat) ≠ 0 by decide), zu_ne (show (4 : Nat) ≠ 0 by decide), zu_ne (show (5 : Nat) ≠ 0 by decide), zu_ne (show (6 : Nat) ≠ 0 by decide), zu_ne (show (7 : Nat) ≠ 0 by decide), zu_ne (show (8 : Nat) ≠ 0 by decide), zu_ne (show (9 : Nat) ≠ 0 by decide)]
  · simp only [zPM_154, zu_ne (show (1 : Nat) ≠ 0 by decide), zu_ne (show (2 : Nat) ≠ 0 by decide), zu_ne (show (3 : Nat) ≠ 0 by decide), zu_ne (show (4 : Nat) ≠ 0 by decide), zu_ne (show (5 : Nat) ≠ 0 by decide), zu_ne (show (6 : Nat) ≠ 0 by decide), zu_ne (show (7 : Nat) ≠ 0 by decide), zu_ne (show (8 : Nat) ≠ 0 by decide), zu_ne (show (9 : Nat) ≠ 0 by decide)]
  · simp only [zPM_155, zu_ne (show (1 : Nat) ≠ 0 by decide), zu_ne (show (2 : Nat) ≠ 0 by decide), zu_ne (show (3 : Nat) ≠ 0 by decide), zu_ne (show (4 : Nat) ≠ 0 by decide), zu_ne (show (5 : Nat) ≠ 0 by decide), zu_ne (show (6 : Nat) ≠ 0 by decide), zu_ne (show (7 : Nat) ≠ 0 by decide), zu_ne (show (8 : Nat) ≠ 0 by decide), zu_ne (show (9 : Nat) ≠ 0 by decide)]
  · simp only [zPM_156, zu_ne (show (1 : Nat) ≠ 0 by decide), zu_ne (show (2 : Nat) ≠ 0 by decide), zu_ne (show (3 : Nat) ≠ 0 by decide), zu_ne (show (4 : Nat) ≠ 0 by decide), zu_ne (show (5 : Nat) ≠ 0 by decide), zu_ne (show (6 : Nat) ≠ 0 by decide), zu_ne (show (7 : Nat) ≠ 0 by decide), zu_ne (show (8 : Nat) ≠ 0 by decide), zu_ne (show (9 : Nat) ≠ 0 by decide)]
  · simp only [zPM_157, zu_ne (show (1 : Nat) ≠ 0 by decide), zu_ne (show (2 : Nat) ≠ 0 by decide), zu_ne (show (3 : Nat) ≠ 0 by decide), zu_ne (show (4 : Nat) ≠ 0 by decide), zu_ne (show (5 : Nat) ≠ 0 by decide), zu_ne (show (6 : Nat) ≠ 0 by decide), zu_ne (show (7 : Nat) ≠ 0 by decide), zu_ne (show (8 : Nat) ≠ 0 by decide), zu_ne (show (9 : Nat) ≠ 0 by decide)]
  · simp only [zPM_158, zu_ne (show (1 : Nat) ≠ 0 by decide), zu_ne (show (2 : Nat) ≠ 0 by decide), zu_ne (show (3 : Nat) ≠ 0 by decide), zu_ne (show (4 : Nat) ≠ 0 by decide), zu_ne (show (5 : Nat) ≠ 0 by decide), zu_ne (show (6 : Nat) ≠ 0 by decide), zu_ne (show (7 : Nat) ≠ 0 by decide), zu_ne (show (8 : Nat) ≠ 0 by decide), zu_ne (show (9 : Nat) ≠ 0 by decide)]
theorem zPM_i12 {N s : Nat} {W : Nat → Nat → Int32} {r : Int32} {ia : Nat → Nat → Int32} {u : Int32} : zPM N s (zu W 0 12 u) r ia = zPM N s W r ia := by
  refine zPM_all ?_ (fun _ _ => rfl)
  refine zPM_12 (P := fun c => zPM N s (zu W 0 12 u) r ia c = zPM N s W r ia c) ?_ ?_ ?_ ?_ ?_ ?_ ?_ ?_ ?_ ?_ ?_ ?_
  · simp only [zPM_147, zu_k (show 0 ≠ 12 by decide)]
  · simp only [zPM_148]
  · simp only [zPM_149, zu_k (show 14 ≠ 12 by decide)]
  · simp only [zPM_150, zu_ne (show (1 : Nat) ≠ 0 by decide), zu_ne (show (2 : Nat) ≠ 0 by decide), zu_ne (show (3 : Nat) ≠ 0 by decide), zu_ne (show (4 : Nat) ≠ 0 by decide), zu_ne (show (5 : Nat) ≠ 0 by decide), zu_ne (show (6 : Nat) ≠ 0 by decide), zu_ne (show (7 : Nat) ≠ 0 by decide), zu_ne (show (8 : Nat) ≠ 0 by decide), zu_ne (show (9 : Nat) ≠ 0 by decide)]
  · simp only [zPM_151, zu_ne (show (1 : Nat) ≠ 0 by decide), zu_ne (show (2 : Nat) ≠ 0 by decide), zu_ne (show (3 : Nat) ≠ 0 by decide), zu_ne (show (4 : Nat) ≠ 0 by decide), zu_ne (show (5 : Nat) ≠ 0 by decide), zu_ne (show (6 : Nat) ≠ 0 by decide), zu_ne (show (7 : Nat) ≠ 0 by decide), zu_ne (show (8 : Nat) ≠ 0 by decide), zu_ne (show (9 : Nat) ≠ 0 by decide)]
  · simp only [zPM_152, zu_ne (show (1 : Nat) ≠ 0 by decide), zu_ne (show (2 : Nat) ≠ 0 by decide), zu_ne (show (3 : Nat) ≠ 0 by decide), zu_ne (show (4 : Nat) ≠ 0 by decide), zu_ne (show (5 : Nat) ≠ 0 by decide), zu_ne (show (6 : Nat) ≠ 0 by decide), zu_ne (show (7 : Nat) ≠ 0 by decide), zu_ne (show (8 : Nat) ≠ 0 by decide), zu_ne (show (9 : Nat) ≠ 0 by decide)]
  · simp only [zPM_153, zu_ne (show (1 : Nat) ≠ 0 by decide), zu_ne (show (2 : Nat) ≠ 0 by decide), zu_ne (show (3 : Nat) ≠ 0 by decide), zu_ne (show (4 : Nat) ≠ 0 by decide), zu_ne (show (5 : Nat) ≠ 0 by decide), zu_ne (show (6 : Nat) ≠ 0 by decide), zu_ne (show (7 : Nat) ≠ 0 by decide), zu_ne (show (8 : Nat) ≠ 0 by decide), zu_ne (show (9 : Nat) ≠ 0 by decide)]
  · simp only [zPM_154, zu_ne (show (1 : Nat) ≠ 0 by decide), zu_ne (show (2 : Nat) ≠ 0 by decide), zu_ne (show (3 : Nat) ≠ 0 by decide), zu_ne (show (4 : Nat) ≠ 0 by decide), zu_ne (show (5 : Nat) ≠ 0 by decide), zu_ne (show (6 : Nat) ≠ 0 by decide), zu_ne (show (7 : Nat) ≠ 0 by decide), zu_ne (show (8 : Nat) ≠ 0 by decide), zu_ne (show (9 : Nat) ≠ 0 by decide)]
  · simp only [zPM_155, zu_ne (show (1 : Nat) ≠ 0 by decide), zu_ne (show (2 : Nat) ≠ 0 by decide), zu_ne (show (3 : Nat) ≠ 0 by decide), zu_ne (show (4 : Nat) ≠ 0 by decide), zu_ne (show (5 : Nat) ≠ 0 by decide), zu_ne (show (6 : Nat) ≠ 0 by decide), zu_ne (show (7 : Nat) ≠ 0 by decide), zu_ne (show (8 : Nat) ≠ 0 by decide), zu_ne (show (9 : Nat) ≠ 0 by decide)]
  · simp only [zPM_156, zu_ne (show (1 : Nat) ≠ 0 by decide), zu_ne (show (2 : Nat) ≠ 0 by decide), zu_ne (show (3 : Nat) ≠ 0 by decide), zu_ne (show (4 : Nat) ≠ 0 by decide), zu_ne (show (5 : Nat) ≠ 0 by decide), zu_ne (show (6 : Nat) ≠ 0 by decide), zu_ne (show (7 : Nat) ≠ 0 by decide), zu_ne (show (8 : Nat) ≠ 0 by decide), zu_ne (show (9 : Nat) ≠ 0 by decide)]
  · simp only [zPM_157, zu_ne (show (1 : Nat) ≠ 0 by decide), zu_ne (show (2 : Nat) ≠ 0 by decide), zu_ne (show (3 : Nat) ≠ 0 by decide), zu_ne (show (4 : Nat) ≠ 0 by decide), zu_ne (show (5 : Nat) ≠ 0 by decide), zu_ne (show (6 : Nat) ≠ 0 by decide), zu_ne (show (7 : Nat) ≠ 0 by decide), zu_ne (show (8 : Nat) ≠ 0 by decide), zu_ne (show (9 : Nat) ≠ 0 by decide)]
  · simp only [zPM_158, zu_ne (show (1 : Nat) ≠ 0 by decide), zu_ne (show (2 : Nat) ≠ 0 by decide), zu_ne (show (3 : Nat) ≠ 0 by decide), zu_ne (show (4 : Nat) ≠ 0 by decide), zu_ne (show (5 : Nat) ≠ 0 by decide), zu_ne (show (6 : Nat) ≠ 0 by decide), zu_ne (show (7 : Nat) ≠ 0 by decide), zu_ne (show (8 : Nat) ≠ 0 by decide), zu_ne (show (9 : Nat) ≠ 0 by decide)]
theorem zPM_i13 {N s : Nat} {W : Nat → Nat → Int32} {r : Int32} {ia : Nat → Nat → Int32} {u : Int32} : zPM N s (zu W 0 13 u) r ia = zPM N s W r ia := by
  refine zPM_all ?_ (fun _ _ => rfl)
  refine zPM_12 (P := fun c => zPM N s (zu W 0 13 u) r ia c = zPM N s W r ia c) ?_ ?_ ?_ ?_ ?_ ?_ ?_ ?_ ?_ ?_ ?_ ?_
  · simp only [zPM_147, zu_k (show 0 ≠ 13 by decide)]
  · simp only [zPM_148]
  · simp only [zPM_149, zu_k (show 14 ≠ 13 by decide)]
  · simp only [zPM_150, zu_ne (show (1 : Nat) ≠ 0 by decide), zu_ne (show (2 : Nat) ≠ 0 by decide), zu_ne (show (3 : Nat) ≠ 0 by decide), zu_ne (show (4 : Nat) ≠ 0 by decide), zu_ne (show (5 : Nat) ≠ 0 by decide), zu_ne (show (6 : Nat) ≠ 0 by decide), zu_ne (show (7 : Nat) ≠ 0 by decide), zu_ne (show (8 : Nat) ≠ 0 by decide), zu_ne (show (9 : Nat) ≠ 0 by decide)]
  · simp only [zPM_151, zu_ne (show (1 : Nat) ≠ 0 by decide), zu_ne (show (2 : Nat) ≠ 0 by decide), zu_ne (show (3 : Nat) ≠ 0 by decide), zu_ne (show (4 : Nat) ≠ 0 by decide), zu_ne (show (5 : Nat) ≠ 0 by decide), zu_ne (show (6 : Nat) ≠ 0 by decide), zu_ne (show (7 : Nat) ≠ 0 by decide), zu_ne (show (8 : Nat) ≠ 0 by decide), zu_ne (show (9 : Nat) ≠ 0 by decide)]
  · simp only [zPM_152, zu_ne (show (1 : Nat) ≠ 0 by decide), zu_ne (show (2 : Nat) ≠ 0 by decide), zu_ne (show (3 : Nat) ≠ 0 by decide), zu_ne (show (4 : Nat) ≠ 0 by decide), zu_ne (show (5 : Nat) ≠ 0 by decide), zu_ne (show (6 : Nat) ≠ 0 by decide), zu_ne (show (7 : Nat) ≠ 0 by decide), zu_ne (show (8 : Nat) ≠ 0 by decide), zu_ne (show (9 : Nat) ≠ 0 by decide)]
  · simp only [zPM_153, zu_ne (show (1 : Nat) ≠ 0 by decide), zu_ne (show (2 : Nat) ≠ 0 by decide), zu_ne (show (3 : Nat) ≠ 0 by decide), zu_ne (show (4 : Nat) ≠ 0 by decide), zu_ne (show (5 : Nat) ≠ 0 by decide), zu_ne (show (6 : Nat) ≠ 0 by decide), zu_ne (show (7 : Nat) ≠ 0 by decide), zu_ne (show (8 : Nat) ≠ 0 by decide), zu_ne (show (9 : Nat) ≠ 0 by decide)]
  · simp only [zPM_154, zu_ne (show (1 : Nat) ≠ 0 by decide), zu_ne (show (2 : Nat) ≠ 0 by decide), zu_ne (show (3 : Nat) ≠ 0 by decide), zu_ne (show (4 : Nat) ≠ 0 by decide), zu_ne (show (5 : Nat) ≠ 0 by decide), zu_ne (show (6 : Nat) ≠ 0 by decide), zu_ne (show (7 : Nat) ≠ 0 by decide), zu_ne (show (8 : Nat) ≠ 0 by decide), zu_ne (show (9 : Nat) ≠ 0 by decide)]
  · simp only [zPM_155, zu_ne (show (1 : Nat) ≠ 0 by decide), zu_ne (show (2 : Nat) ≠ 0 by decide), zu_ne (show (3 : Nat) ≠ 0 by decide), zu_ne (show (4 : Nat) ≠ 0 by decide), zu_ne (show (5 : Nat) ≠ 0 by decide), zu_ne (show (6 : Nat) ≠ 0 by decide), zu_ne (show (7 : Nat) ≠ 0 by decide), zu_ne (show (8 : Nat) ≠ 0 by decide), zu_ne (show (9 : Nat) ≠ 0 by decide)]
  · simp only [zPM_156, zu_ne (show (1 : Nat) ≠ 0 by decide), zu_ne (show (2 : Nat) ≠ 0 by decide), zu_ne (show (3 : Nat) ≠ 0 by decide), zu_ne (show (4 : Nat) ≠ 0 by decide), zu_ne (show (5 : Nat) ≠ 0 by decide), zu_ne (show (6 : Nat) ≠ 0 by decide), zu_ne (show (7 : Nat) ≠ 0 by decide), zu_ne (show (8 : Nat) ≠ 0 by decide), zu_ne (show (9 : Nat) ≠ 0 by decide)]
  · simp only [zPM_157, zu_ne (show (1 : Nat) ≠ 0 by decide), zu_ne (show (2 : Nat) ≠ 0 by decide), zu_ne (show (3 : Nat) ≠ 0 by decide), zu_ne (show (4 : Nat) ≠ 0 by decide), zu_ne (show (5 : Nat) ≠ 0 by decide), zu_ne (show (6 : Nat) ≠ 0 by decide), zu_ne (show (7 : Nat) ≠ 0 by decide), zu_ne (show (8 : Nat) ≠ 0 by decide), zu_ne (show (9 : Nat) ≠ 0 by decide)]
  · simp only [zPM_158, zu_ne (show (1 : Nat) ≠ 0 by decide), zu_ne (show (2 : Nat) ≠ 0 by decide), zu_ne (show (3 : Nat) ≠ 0 by decide), zu_ne (show (4 : Nat) ≠ 0 by decide), zu_ne (show (5 : Nat) ≠ 0 by decide), zu_ne (show (6 : Nat) ≠ 0 by decide), zu_ne (show (7 : Nat) ≠ 0 by decide), zu_ne (show (8 : Nat) ≠ 0 by decide), zu_ne (show (9 : Nat) ≠ 0 by decide)]
theorem zPM_wr {N s : Nat} {W : Nat → Nat → Int32} {r : Int32} {ia : Nat → Nat → Int32} {k : Nat} {g v0 v1 v2 : Int32} (hk : k < 12) (hg : ¬ g = 0) : zu (zu (zu (zu (zPM N s W r ia) 157 (12 * s + k) g) 158 (36 * s + 3 * k) v0) 158 (36 * s + (3 * k + 1)) v1) 158 (36 * s + (3 * k + 2)) v2 = zPM N s (zu (zu (zu (zu W 9 (3 * k) v0) 9 (3 * k + 1) v1) 9 (3 * k + 2) v2) 6 k g) r ia := by
  funext c
  by_cases e7 : c = 157
  · subst e7
    rw [zu_o (by decide), zu_o (by decide), zu_o (by decide), zu_self, zPM_157, zPM_157, zrB_u hk, zu_self, zu_o (by decide), zu_o (by decide), zu_o (by decide)]
  by_cases e8 : c = 158
  · subst e8
    rw [zu_self, zu_self, zu_self, zu_o (by decide), zPM_158, zPM_158, zrB_u (show 3 * k < 36 by omega), zrB_u (show 3 * k + 1 < 36 by omega), zrB_u (show 3 * k + 2 < 36 by omega)]
    congr 1
    funext i
    simp only [zu_at]
    unfold va_up
    have h0 : (3 * k) / 3 = k := by omega
    by_cases i2 : i = 3 * k + 2
    · subst i2
      have h2 : (3 * k + 2) / 3 = k := by omega
      simp [h2, hg]
    by_cases i1 : i = 3 * k + 1
    · subst i1
      have h1 : (3 * k + 1) / 3 = k := by omega
      simp [h1, hg]
    by_cases i0 : i = 3 * k
    · subst i0
      simp [h0, hg]
    · have hd : ¬ i / 3 = k := by omega
      simp [i2, i1, i0, hd]
  rw [zu_o e8, zu_o e8, zu_o e8, zu_o e7]
  by_cases q : c < 147 ∨ 158 < c
  · rw [zPM_o q, zPM_o q]
  · revert e7 e8
    refine zPM_12 (P := fun c => ¬ c = 157 → ¬ c = 158 → zPM N s W r ia c = zPM N s (zu (zu (zu (zu W 9 (3 * k) v0) 9 (3 * k + 1) v1) 9 (3 * k + 2) v2) 6 k g) r ia c) ?_ ?_ ?_ ?_ ?_ ?_ ?_ ?_ ?_ ?_ ?_ ?_ c (by omega) (by omega)
    · intro _ _; simp only [zPM_147, zu_ne (show (0 : Nat) ≠ 6 by decide), zu_ne (show (1 : Nat) ≠ 6 by decide), zu_ne (show (2 : Nat) ≠ 6 by decide), zu_ne (show (3 : Nat) ≠ 6 by decide), zu_ne (show (4 : Nat) ≠ 6 by decide), zu_ne (show (5 : Nat) ≠ 6 by decide), zu_ne (show (7 : Nat) ≠ 6 by decide), zu_ne (show (8 : Nat) ≠ 6 by decide), zu_ne (show (9 : Nat) ≠ 6 by decide), zu_ne (show (0 : Nat) ≠ 9 by decide), zu_ne (show (1 : Nat) ≠ 9 by decide), zu_ne (show (2 : Nat) ≠ 9 by decide), zu_ne (show (3 : Nat) ≠ 9 by decide), zu_ne (show (4 : Nat) ≠ 9 by decide), zu_ne (show (5 : Nat) ≠ 9 by decide), zu_ne (show (6 : Nat) ≠ 9 by decide), zu_ne (show (7 : Nat) ≠ 9 by decide), zu_ne (show (8 : Nat) ≠ 9 by decide)]
    · intro _ _; simp only [zPM_148]
    · intro _ _; simp only [zPM_149, zu_ne (show (0 : Nat) ≠ 6 by decide), zu_ne (show (1 : Nat) ≠ 6 by decide), zu_ne (show (2 : Nat) ≠ 6 by decide), zu_ne (show (3 : Nat) ≠ 6 by decide), zu_ne (show (4 : Nat) ≠ 6 by decide), zu_ne (show (5 : Nat) ≠ 6 by decide), zu_ne (show (7 : Nat) ≠ 6 by decide), zu_ne (show (8 : Nat) ≠ 6 by decide), zu_ne (show (9 : Nat) ≠ 6 by decide), zu_ne (show (0 : Nat) ≠ 9 by decide), zu_ne (show (1 : Nat) ≠ 9 by decide), zu_ne (show (2 : Nat) ≠ 9 by decide), zu_ne (show (3 : Nat) ≠ 9 by decide), zu_ne (show (4 : Nat) ≠ 9 by decide), zu_ne (show (5 : Nat) ≠ 9 by decide), zu_ne (show (6 : Nat) ≠ 9 by decide), zu_ne (show (7 : Nat) ≠ 9 by decide), zu_ne (show (8 : Nat) ≠ 9 by decide)]
    · intro _ _; simp only [zPM_150, zu_ne (show (0 : Nat) ≠ 6 by decide), zu_ne (show (1 : Nat) ≠ 6 by decide), zu_ne (show (2 : Nat) ≠ 6 by decide), zu_ne (show (3 : Nat) ≠ 6 by decide), zu_ne (show (4 : Nat) ≠ 6 by decide), zu_ne (show (5 : Nat) ≠ 6 by decide), zu_ne (show (7 : Nat) ≠ 6 by decide), zu_ne (show (8 : Nat) ≠ 6 by decide), zu_ne (show (9 : Nat) ≠ 6 by decide), zu_ne (show (0 : Nat) ≠ 9 by decide), zu_ne (show (1 : Nat) ≠ 9 by decide), zu_ne (show (2 : Nat) ≠ 9 by decide), zu_ne (show (3 : Nat) ≠ 9 by decide), zu_ne (show (4 : Nat) ≠ 9 by decide), zu_ne (show (5 : Nat) ≠ 9 by decide), zu_ne (show (6 : Nat) ≠ 9 by decide), zu_ne (show (7 : Nat) ≠ 9 by decide), zu_ne (show (8 : Nat) ≠ 9 by decide)]
    · intro _ _; simp only [zPM_151, zu_ne (show (0 : Nat) ≠ 6 by decide), zu_ne (show (1 : Nat) ≠ 6 by decide), zu_ne (show (2 : Nat) ≠ 6 by decide), zu_ne (show (3 : Nat) ≠ 6 by decide), zu_ne (show (4 : Nat) ≠ 6 by decide), zu_ne (show (5 : Nat) ≠ 6 by decide), zu_ne (show (7 : Nat) ≠ 6 by decide), zu_ne (show (8 : Nat) ≠ 6 by decide), zu_ne (show (9 : Nat) ≠ 6 by decide), zu_ne (show (0 : Nat) ≠ 9 by decide), zu_ne (show (1 : Nat) ≠ 9 by decide), zu_ne (show (2 : Nat) ≠ 9 by decide), zu_ne (show (3 : Nat) ≠ 9 by decide), zu_ne (show (4 : Nat) ≠ 9 by decide), zu_ne (show (5 : Nat) ≠ 9 by decide), zu_ne (show (6 : Nat) ≠ 9 by decide), zu_ne (show (7 : Nat) ≠ 9 by decide), zu_ne (show (8 : Nat) ≠ 9 by decide)]
    · intro _ _; simp only [zPM_152, zu_ne (show (0 : Nat) ≠ 6 by decide), zu_ne (show (1 : Nat) ≠ 6 by decide), zu_ne (show (2 : Nat) ≠ 6 by decide), zu_ne (show (3 : Nat) ≠ 6 by decide), zu_ne (show (4 : Nat) ≠ 6 by decide), zu_ne (show (5 : Nat) ≠ 6 by decide), zu_ne (show (7 : Nat) ≠ 6 by decide), zu_ne (show (8 : Nat) ≠ 6 by decide), zu_ne (show (9 : Nat) ≠ 6 by decide), zu_ne (show (0 : Nat) ≠ 9 by decide), zu_ne (show (1 : Nat) ≠ 9 by decide), zu_ne (show (2 : Nat) ≠ 9 by decide), zu_ne (show (3 : Nat) ≠ 9 by decide), zu_ne (show (4 : Nat) ≠ 9 by decide), zu_ne (show (5 : Nat) ≠ 9 by decide), zu_ne (show (6 : Nat) ≠ 9 by decide), zu_ne (show (7 : Nat) ≠ 9 by decide), zu_ne (show (8 : Nat) ≠ 9 by decide)]
    · intro _ _; simp only [zPM_153, zu_ne (show (0 : Nat) ≠ 6 by decide), zu_ne (show (1 : Nat) ≠ 6 by decide), zu_ne (show (2 : Nat) ≠ 6 by decide), zu_ne (show (3 : Nat) ≠ 6 by decide), zu_ne (show (4 : Nat) ≠ 6 by decide), zu_ne (show (5 : Nat) ≠ 6 by decide), zu_ne (show (7 : Nat) ≠ 6 by decide), zu_ne (show (8 : Nat) ≠ 6 by decide), zu_ne (show (9 : Nat) ≠ 6 by decide), zu_ne (show (0 : Nat) ≠ 9 by decide), zu_ne (show (1 : Nat) ≠ 9 by decide), zu_ne (show (2 : Nat) ≠ 9 by decide), zu_ne (show (3 : Nat) ≠ 9 by decide), zu_ne (show (4 : Nat) ≠ 9 by decide), zu_ne (show (5 : Nat) ≠ 9 by decide), zu_ne (show (6 : Nat) ≠ 9 by decide), zu_ne (show (7 : Nat) ≠ 9 by decide), zu_ne (show (8 : Nat) ≠ 9 by decide)]
    · intro _ _; simp only [zPM_154, zu_ne (show (0 : Nat) ≠ 6 by decide), zu_ne (show (1 : Nat) ≠ 6 by decide), zu_ne (show (2 : Nat) ≠ 6 by decide), zu_ne (show (3 : Nat) ≠ 6 by decide), zu_ne (show (4 : Nat) ≠ 6 by decide), zu_ne (show (5 : Nat) ≠ 6 by decide), zu_ne (show (7 : Nat) ≠ 6 by decide), zu_ne (show (8 : Nat) ≠ 6 by decide), zu_ne (show (9 : Nat) ≠ 6 by decide), zu_ne (show (0 : Nat) ≠ 9 by decide), zu_ne (show (1 : Nat) ≠ 9 by decide), zu_ne (show (2 : Nat) ≠ 9 by decide), zu_ne (show (3 : Nat) ≠ 9 by decide), zu_ne (show (4 : Nat) ≠ 9 by decide), zu_ne (show (5 : Nat) ≠ 9 by decide), zu_ne (show (6 : Nat) ≠ 9 by decide), zu_ne (show (7 : Nat) ≠ 9 by decide), zu_ne (show (8 : Nat) ≠ 9 by decide)]
    · intro _ _; simp only [zPM_155, zu_ne (show (0 : Nat) ≠ 6 by decide), zu_ne (show (1 : Nat) ≠ 6 by decide), zu_ne (show (2 : Nat) ≠ 6 by decide), zu_ne (show (3 : Nat) ≠ 6 by decide), zu_ne (show (4 : Nat) ≠ 6 by decide), zu_ne (show (5 : Nat) ≠ 6 by decide), zu_ne (show (7 : Nat) ≠ 6 by decide), zu_ne (show (8 : Nat) ≠ 6 by decide), zu_ne (show (9 : Nat) ≠ 6 by decide), zu_ne (show (0 : Nat) ≠ 9 by decide), zu_ne (show (1 : Nat) ≠ 9 by decide), zu_ne (show (2 : Nat) ≠ 9 by decide), zu_ne (show (3 : Nat) ≠ 9 by decide), zu_ne (show (4 : Nat) ≠ 9 by decide), zu_ne (show (5 : Nat) ≠ 9 by decide), zu_ne (show (6 : Nat) ≠ 9 by decide), zu_ne (show (7 : Nat) ≠ 9 by decide), zu_ne (show (8 : Nat) ≠ 9 by decide)]
    · intro _ _; simp only [zPM_156, zu_ne (show (0 : Nat) ≠ 6 by decide), zu_ne (show (1 : Nat) ≠ 6 by decide), zu_ne (show (2 : Nat) ≠ 6 by decide), zu_ne (show (3 : Nat) ≠ 6 by decide), zu_ne (show (4 : Nat) ≠ 6 by decide), zu_ne (show (5 : Nat) ≠ 6 by decide), zu_ne (show (7 : Nat) ≠ 6 by decide), zu_ne (show (8 : Nat) ≠ 6 by decide), zu_ne (show (9 : Nat) ≠ 6 by decide), zu_ne (show (0 : Nat) ≠ 9 by decide), zu_ne (show (1 : Nat) ≠ 9 by decide), zu_ne (show (2 : Nat) ≠ 9 by decide), zu_ne (show (3 : Nat) ≠ 9 by decide), zu_ne (show (4 : Nat) ≠ 9 by decide), zu_ne (show (5 : Nat) ≠ 9 by decide), zu_ne (show (6 : Nat) ≠ 9 by decide), zu_ne (show (7 : Nat) ≠ 9 by decide), zu_ne (show (8 : Nat) ≠ 9 by decide)]
    · intro h _; exact absurd rfl h
    · intro _ h; exact absurd rfl h
