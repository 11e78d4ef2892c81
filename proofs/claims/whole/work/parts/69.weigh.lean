/-! what counts of what was seen -/
/-- whether the last n of M strike the k-th -/
def zOd (X : Nat → Int32) (M : Nat) : Nat → Nat → Bool
  | 0, _ => false
  | n + 1, k => zOd X M n k || (!(zOd X M n (M - 1 - n)) && decide (¬ X (M - 1 - n) = -1) && decide (k = zct (X (M - 1 - n))))
def zQs (X : Nat → Int32) (M k : Nat) : Bool := decide (k < M) && !(zOd X M M k) && decide (X k = -1)
def zLm (Q : Nat → Bool) (t : Nat → Nat) : Nat → Nat
  | 0 => 0
  | n + 1 => max (zLm Q t n) (if Q n = true then t n else 0)
def zLd (Q : Nat → Bool) (t : Nat → Nat) (M : Nat) : Nat → Nat
  | 0 => 0
  | n + 1 => max (zLd Q t M n) (if Q (M - 1 - n) = true then t (M - 1 - n) else 0)
theorem zLm_le {Q : Nat → Bool} {t : Nat → Nat} {b : Nat} : ∀ n : Nat, zLm Q t n ≤ b ↔ ∀ k, k < n → Q k = true → t k ≤ b := by
  intro n
  induction n with
  | zero => exact ⟨fun _ k hk => by omega, fun _ => Nat.zero_le _⟩
  | succ n ih =>
    show max (zLm Q t n) (if Q n = true then t n else 0) ≤ b ↔ _
    rw [Nat.max_le, ih]
    constructor
    · rintro ⟨h1, h2⟩ k hk hq
      by_cases e : k = n
      · subst e; rw [if_pos hq] at h2; exact h2
      · exact h1 k (by omega) hq
    · intro h
      refine ⟨fun k hk hq => h k (by omega) hq, ?_⟩
      by_cases e : Q n = true
      · rw [if_pos e]; exact h n (by omega) e
      · rw [if_neg e]; exact Nat.zero_le _
theorem zLd_le {Q : Nat → Bool} {t : Nat → Nat} {b M : Nat} : ∀ n : Nat, n ≤ M → (zLd Q t M n ≤ b ↔ ∀ k, M - n ≤ k → k < M → Q k = true → t k ≤ b) := by
  intro n
  induction n with
  | zero => intro _; exact ⟨fun _ k hk hk2 => by omega, fun _ => Nat.zero_le _⟩
  | succ n ih =>
    intro hn
    show max (zLd Q t M n) (if Q (M - 1 - n) = true then t (M - 1 - n) else 0) ≤ b ↔ _
    rw [Nat.max_le, ih (by omega)]
    constructor
    · rintro ⟨h1, h2⟩ k hk hk2 hq
      by_cases e : k = M - 1 - n
      · subst e; rw [if_pos hq] at h2; exact h2
      · exact h1 k (by omega) hk2 hq
    · intro h
      refine ⟨fun k hk hk2 hq => h k (by omega) hk2 hq, ?_⟩
      by_cases e : Q (M - 1 - n) = true
      · rw [if_pos e]; exact h _ (by omega) (by omega) e
      · rw [if_neg e]; exact Nat.zero_le _
theorem zLd_eq {Q : Nat → Bool} {t : Nat → Nat} {M : Nat} : zLd Q t M M = zLm Q t M := by
  apply Nat.le_antisymm
  · rw [zLd_le M (Nat.le_refl _)]
    intro k _ hk hq
    exact (zLm_le M).mp (Nat.le_refl _) k hk hq
  · rw [zLm_le]
    intro k hk hq
    exact (zLd_le M (Nat.le_refl _)).mp (Nat.le_refl _) k (by omega) hk hq
theorem zOd_mono {X : Nat → Int32} {M k : Nat} : ∀ n m : Nat, zOd X M n k = true → zOd X M (n + m) k = true := by
  intro n m h
  induction m with
  | zero => exact h
  | succ m ih =>
    show (zOd X M (n + m) k || _) = true
    rw [ih, Bool.true_or]
/-- what strikes has a lower number -/
theorem zOd_st {X : Nat → Int32} {M k n : Nat} (hX : ∀ j, j < M → X j = -1 ∨ ∃ i, i < j ∧ X j = nI i) (hM : M ≤ 24) (hk : k < M) (hn : M - 1 - n ≤ k) : ∀ m : Nat, n + m ≤ M → zOd X M (n + m) k = zOd X M n k := by
  intro m
  induction m with
  | zero => intro _; rfl
  | succ m ih =>
    intro hm
    show (zOd X M (n + m) k || (!(zOd X M (n + m) (M - 1 - (n + m))) && decide (¬ X (M - 1 - (n + m)) = -1) && decide (k = zct (X (M - 1 - (n + m)))))) = _
    rw [ih (by omega)]
    rcases hX (M - 1 - (n + m)) (by omega) with q | ⟨i, hi, q⟩
    · simp [q]
    · have : ¬ k = zct (X (M - 1 - (n + m))) := by rw [q, zct_n (by omega)]; omega
      simp [this]
theorem zm1 (x : Int32) : x + -1 = x - 1 := by rw [Int32.sub_eq_add_neg]
section ZP
variable {d pl dr N L T D s w m M : Nat} {cp cw rp : Option Nat} {p ia W V : Nat → Nat → Int32} {X : Nat → Int32} {t : Nat → Nat} {o : Nat → Int32} {r q bn x y v : Int32} {la : Nat → Nat → Int64} {K : Option Value → zHP → Prop}
/-- how many are known -/
def zKn (m : Nat) (v : Int32) : Nat := if v = -1 then m else zct v
theorem S_knC (hm : m ≤ 24) (e0 : ia 106 0 = nI m) (e2 : ia 106 2 = v) (hv : v = -1 ∨ ∃ j, j ≤ m ∧ v = nI j) : zWM d 47 [.ref 106] (ia, la, zRA pl dr cp cw rp) K = K (some (.int (nI (zKn m v)))) (ia, la, zRA pl dr cp cw rp) := by
  rw [e47, b47_0, e0, e2]
  unfold zKn
  rcases hv with q | ⟨j, hj, q⟩
  · rw [if_neg (fun z => z q), if_pos q]
  · have n1 : ¬ v = -1 := fun z => nI_pos (n := j) (by omega) (by rw [← q, z]; decide)
    rw [if_pos n1, if_neg n1, q, zct_n (by omega)]
theorem S_knM (hm : m ≤ 24) (e0 : ia 127 57 = nI m) (e2 : ia 127 58 = v) (hv : v = -1 ∨ ∃ j, j ≤ m ∧ v = nI j) : zWM d 227 [.ref 127] (ia, la, zRA pl dr cp cw rp) K = K (some (.int (nI (zKn m v)))) (ia, la, zRA pl dr cp cw rp) := by
  rw [e227, b227_0, e0, e2]
  unfold zKn
  rcases hv with q | ⟨j, hj, q⟩
  · rw [if_neg (fun z => z q), if_pos q]
  · have n1 : ¬ v = -1 := fun z => nI_pos (n := j) (by omega) (by rw [← q, z]; decide)
    rw [if_pos n1, if_neg n1, q, zct_n (by omega)]
theorem zKn_le (hv : v = -1 ∨ ∃ j, j ≤ m ∧ v = nI j) (hm : m ≤ 24) : zKn m v ≤ m := by
  unfold zKn
  rcases hv with q | ⟨j, hj, q⟩
  · rw [if_pos q]; exact Nat.le_refl _
  · have n1 : ¬ v = -1 := fun z => nI_pos (n := j) (by omega) (by rw [← q, z]; decide)
    rw [if_neg n1, q, zct_n (by omega)]; exact hj
theorem S_weigh (hm : m ≤ 24) (e0 : ia 106 0 = nI m) (e2 : ia 106 2 = v) (hv : v = -1 ∨ ∃ j, j ≤ m ∧ v = nI j) (hM : zKn m v = M) (hX : ∀ j, j < M → ia 111 j = -1 ∨ ∃ i, i < j ∧ ia 111 j = nI i) (ht : ∀ k, k < M → ia 111 k = -1 → ia 107 k = nI (t k) ∧ t k ≤ 60) (hK : ∀ ja : Nat → Nat → Int32, (∀ c k, c ≠ 112 → ¬ (c = 106 ∧ k = 1) → ja c k = ia c k) → ja 106 1 = nI (zLm (zQs (ia 111) M) t M) → (∀ k, k < 24 → ja 112 k = if zQs (ia 111) M k = true then 1 else 0) → K none (ja, la, zRA pl dr cp cw rp)) : zWM (d + 6) 48 [.ref 106] (ia, la, zRA pl dr cp cw rp) K := by
  have hM24 : M ≤ 24 := by rw [← hM]; have := zKn_le (v := v) hv hm; omega
  have nb0 : vp_nar .boolean 0 = 0 := rfl
  have nb1 : vp_nar .boolean 1 = 1 := rfl
  rw [e48, b48_0, S_knC hm e0 e2 hv, hM, kS, b48_4]
  have down : ∀ (i n : Nat) ja, i + n = M → (∀ c k, c ≠ 112 → ¬ (c = 106 ∧ k = 1) → ja c k = ia c k) → ja 106 1 = nI (zLd (zQs (ia 111) M) t M n) → (∀ k, k < 24 → ja 112 k = if k < i then (if zOd (ia 111) M n k = true then 0 else 1) else if zQs (ia 111) M k = true then 1 else 0) → zWP (d + 6) 48 44 [some (.ref 106), some (.int (nI M)), some (.int (nI i - 1))] [] (ja, la, zRA pl dr cp cw rp) K := by
    intro i
    induction i with
    | zero =>
      intro n ja hn h1 h2 h3
      rw [b48_44, if_pos (by decide)]
      refine hK ja h1 ?_ (fun k hk => ?_)
      · rw [h2, show n = M by omega, zLd_eq]
      · rw [h3 k hk, if_neg (by omega)]
    | succ i ih =>
      intro n ja hn h1 h2 h3
      have e111 : ja 111 = ia 111 := by funext k; exact h1 111 k (by decide) (by omega)
      have e107 : ja 107 = ia 107 := by funext k; exact h1 107 k (by decide) (by omega)
      have ei : M - 1 - n = i := by omega
      have q3 := h3 i (by omega)
      rw [if_pos (by omega)] at q3
      have st := zOd_st (X := ia 111) (M := M) (k := i) (n := n) hX hM24 (by omega) (by omega) (M - n) (by omega)
      rw [show n + (M - n) = M by omega] at st
      have lds : zLd (zQs (ia 111) M) t M (n + 1) = max (zLd (zQs (ia 111) M) t M n) (if zQs (ia 111) M i = true then t i else 0) := by
        show max (zLd (zQs (ia 111) M) t M n) (if zQs (ia 111) M (M - 1 - n) = true then t (M - 1 - n) else 0) = _
        rw [ei]
      have ods : ∀ k, zOd (ia 111) M (n + 1) k = (zOd (ia 111) M n k || (!(zOd (ia 111) M n i) && decide (¬ ia 111 i = -1) && decide (k = zct (ia 111 i)))) := by
        intro k
        show (zOd (ia 111) M n k || (!(zOd (ia 111) M n (M - 1 - n)) && decide (¬ ia 111 (M - 1 - n) = -1) && decide (k = zct (ia 111 (M - 1 - n))))) = _
        rw [ei]
      rw [np, b48_44, if_neg (nI_pos (by omega)), zg (by omega) (by omega), zcln (by omega), e111, q3, nb0, b48_88, zg (by omega) (by omega), zcln (by omega), q3, e107, zm1]
      by_cases c1 : zOd (ia 111) M n i = true
      · have nq : zQs (ia 111) M i = false := by unfold zQs; rw [st, c1]; simp
        rw [if_pos c1, if_pos rfl, if_pos rfl]
        refine ih (n + 1) ja (by omega) h1 ?_ (fun k hk => ?_)
        · rw [h2, lds, nq]; simp
        · rw [h3 k hk]
          by_cases e : k = i
          · subst e; rw [if_pos (by omega), if_pos c1, if_neg (by omega), nq]; rfl
          · by_cases e2 : k < i
            · rw [if_pos (by omega), if_pos e2, ods, c1]; simp
            · rw [if_neg (by omega), if_neg e2]
      · rw [if_neg c1, if_neg (show ¬ (1 : Int32) = 0 by decide), if_neg (show ¬ (1 : Int32) = 0 by decide)]
        have c1' : zOd (ia 111) M n i = false := by simpa using c1
        rcases hX i (by omega) with q | ⟨j, hj, q⟩
        · have yq : zQs (ia 111) M i = true := by unfold zQs; rw [st, c1', q]; simp; omega
          obtain ⟨t1, t2⟩ := ht i (by omega) q
          rw [if_pos (show ia 111 i < 0 by rw [q]; decide), h2, t1]
          have hl : zLd (zQs (ia 111) M) t M n ≤ 60 := (zLd_le n (by omega)).mpr (fun k _ hk2 hq => by
            have : ia 111 k = -1 := by unfold zQs at hq; simp at hq; exact hq.2
            exact (ht k hk2 this).2)
          have mx : (if nI (zLd (zQs (ia 111) M) t M n) < nI (t i) then nI (t i) else nI (zLd (zQs (ia 111) M) t M n)) = nI (zLd (zQs (ia 111) M) t M (n + 1)) := by
            rw [lds, yq, if_pos rfl]
            by_cases cc : zLd (zQs (ia 111) M) t M n < t i
            · rw [if_pos (nI_lt cc (by omega)), Nat.max_eq_right (by omega)]
            · rw [if_neg (nI_nlt (by omega) (by omega)), Nat.max_eq_left (by omega)]
          rw [mx]
          refine ih (n + 1) _ (by omega) (fun c k h4 h5 => ?_) (zu_eq _ _ _ _) (fun k hk => ?_)
          · rw [zu_at, if_neg h5]; exact h1 c k h4 h5
          · rw [zu_o (by decide), h3 k hk]
            by_cases e : k = i
            · subst e; rw [if_pos (by omega), if_neg c1, if_neg (by omega), yq]; rfl
            · by_cases e2 : k < i
              · rw [if_pos (by omega), if_pos e2, ods, q]; simp
              · rw [if_neg (by omega), if_neg e2]
        · have nn : ¬ ia 111 i = -1 := fun z => nI_pos (n := j) (by omega) (by rw [← q, z]; decide)
          have nq : zQs (ia 111) M i = false := by unfold zQs; simp [nn]
          rw [if_neg (show ¬ ia 111 i < 0 by rw [q]; exact nI_pos (by omega)), q, zg (by omega) (by omega), zcln (by omega)]
          refine ih (n + 1) _ (by omega) (fun c k h4 h5 => ?_) ?_ (fun k hk => ?_)
          · rw [zu_o h4, zu_o h4]; exact h1 c k h4 h5
          · rw [zu_o (by decide), zu_o (by decide), h2, lds, nq]; simp
          · rw [zu_at, zu_at, h3 k hk]
            by_cases e : k = i
            · subst e; rw [if_pos ⟨rfl, rfl⟩, if_neg (by omega), nq]; rfl
            · rw [if_neg (fun z => e z.2)]
              by_cases e2 : k < i
              · have nj : ¬ nI j = -1 := fun z => nn (by rw [q, z])
                by_cases e3 : k = j
                · rw [if_pos (show 112 = 112 ∧ k = j from ⟨rfl, e3⟩), if_pos e2, ods, c1', q, zct_n (by omega)]
                  simp [e3, nj]
                · rw [if_neg (show ¬ (112 = 112 ∧ k = j) from fun z => e3 z.2), if_pos (show k < i + 1 by omega), if_pos e2, ods, c1', q, zct_n (by omega)]
                  simp [e3]
              · rw [if_neg (show ¬ (112 = 112 ∧ k = j) by omega), if_neg (show ¬ k < i + 1 by omega), if_neg e2]
  have up : ∀ (n k : Nat) ja, k + n = 24 → (∀ c j, c ≠ 112 → ja c j = ia c j) → (∀ j, j < k → ja 112 j = if j < M then 1 else 0) → zWP (d + 6) 48 7 [some (.ref 106), some (.int (nI M)), some (.int (nI k))] [] (ja, la, zRA pl dr cp cw rp) K := by
    intro n
    induction n with
    | zero =>
      intro k ja hk h1 h2
      rw [b48_7, if_pos (show (24 : Int32) ≤ nI k from nI_le1 (a := 24) (by omega) (by omega))]
      refine down M 0 _ (by omega) (fun c j h4 h5 => ?_) (zu_eq _ _ _ _) (fun j hj => ?_)
      · rw [zu_at, if_neg h5]; exact h1 c j h4
      · rw [zu_o (by decide), h2 j (by omega)]
        by_cases e : j < M
        · rw [if_pos e, if_pos e]; rfl
        · rw [if_neg e, if_neg e, if_neg]
          unfold zQs; simp [e]
    | succ n ih =>
      intro k ja hk h1 h2
      rw [b48_7, if_neg (show ¬ (24 : Int32) ≤ nI k from nI_nle1 (a := 24) (by omega) (by omega)), zg (by omega) (by omega), zg (by omega) (by omega), zcln (by omega), ns, nb0, nb1]
      by_cases e : k < M
      · rw [if_neg (nI_nle1 e (by omega))]
        refine ih (k + 1) _ (by omega) (fun c j h4 => by rw [zu_o h4]; exact h1 c j h4) (fun j hj => ?_)
        rw [zu_at]
        by_cases ej : j = k
        · rw [if_pos ⟨rfl, ej⟩, if_pos (by omega)]
        · rw [if_neg (fun z => ej z.2)]; exact h2 j (by omega)
      · rw [if_pos (nI_le1 (by omega) (by omega))]
        refine ih (k + 1) _ (by omega) (fun c j h4 => by rw [zu_o h4]; exact h1 c j h4) (fun j hj => ?_)
        rw [zu_at]
        by_cases ej : j = k
        · rw [if_pos ⟨rfl, ej⟩, if_neg (by omega)]
        · rw [if_neg (fun z => ej z.2)]; exact h2 j (by omega)
  exact up 24 0 ia (by omega) (fun _ _ _ => rfl) (fun j hj => by omega)
end ZP
