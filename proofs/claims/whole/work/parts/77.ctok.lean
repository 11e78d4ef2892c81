/-! tokens of the class -/
/-- a byte as the class has it -/
def zcb (b : Nat) : Int32 := (nI b).toInt8.toInt32
theorem zcb_1 : ∀ b, b < 128 → zcb b = nI b := by decide +kernel
theorem zcb_2 : ∀ b, b < 256 → 128 ≤ b → zcb b < 0 := by decide +kernel
theorem zcb_eq {b k : Nat} (hb : b < 256) (hk : k < 128) : zcb b = nI k ↔ b = k := by
  by_cases c : b < 128
  · rw [zcb_1 b c]; exact nI_eq (by omega) (by omega)
  · have := zcb_2 b hb (by omega)
    constructor
    · intro e; rw [e] at this; exact absurd this (nI_pos (by omega))
    · intro e; omega
def zsml (b : Nat) : Bool := decide (97 ≤ b ∧ b ≤ 122)
def zdig (b : Nat) : Bool := decide (48 ≤ b ∧ b ≤ 57)
/-- the first place from i on where P isn't so -/
def zrnx (P : Nat → Bool) (b : Nat → Nat) (n : Nat) : Nat → Nat → Nat
  | 0, i => i
  | f + 1, i => if i < n ∧ P (b i) = true then zrnx P b n f (i + 1) else i
theorem zrnx_b {P : Nat → Bool} {b : Nat → Nat} {n : Nat} : ∀ f i : Nat, i ≤ n → i ≤ zrnx P b n f i ∧ zrnx P b n f i ≤ n ∧ (∀ j, i ≤ j → j < zrnx P b n f i → P (b j) = true) := by
  intro f
  induction f with
  | zero => intro i hi; exact ⟨Nat.le_refl _, hi, fun j h1 h2 => by have h2 : j < i := h2; omega⟩
  | succ f ih =>
    intro i hi
    unfold zrnx
    by_cases c : i < n ∧ P (b i) = true
    · rw [if_pos c]
      obtain ⟨a1, a2, a3⟩ := ih (i + 1) (by omega)
      refine ⟨by omega, a2, fun j h1 h2 => ?_⟩
      by_cases e : j = i
      · rw [e]; exact c.2
      · exact a3 j (by omega) h2
    · rw [if_neg c]; exact ⟨Nat.le_refl _, hi, fun j h1 h2 => by omega⟩
theorem zrnx_s {P : Nat → Bool} {b : Nat → Nat} {n : Nat} : ∀ f i : Nat, n ≤ i + f → ¬ (zrnx P b n f i < n ∧ P (b (zrnx P b n f i)) = true) := by
  intro f
  induction f with
  | zero => intro i h q; have q : i < n ∧ _ := q; omega
  | succ f ih =>
    intro i h
    unfold zrnx
    by_cases c : i < n ∧ P (b i) = true
    · rw [if_pos c]; exact ih (i + 1) (by omega)
    · rw [if_neg c]; exact c
/-- six letters at most, packed -/
def zpv (b : Nat → Nat) (p : Nat) : Nat → Nat
  | 0 => 0
  | m + 1 => if m < 6 then zpv b p m ||| ((b (p + m) - 96) * 2 ^ (5 * (5 - m))) else zpv b p m
def zspc (b : Nat) : Bool := decide (b = 10 ∨ b = 32)
section ZP
variable {d pl dr n : Nat} {cp cw rp : Option Nat} {b : Nat → Nat} {ia sa : Nat → Nat → Int32} {la : Nat → Nat → Int64} {K : Option Value → zHP → Prop}
theorem S_smC {v : Nat} (hv : v < 256) : zWM d 60 [.int (zcb v)] (sa, la, zRA pl dr cp cw rp) K = K (some (.int (if zsml v = true then 1 else 0))) (sa, la, zRA pl dr cp cw rp) := by
  rw [e60, b60_0]
  unfold zsml
  by_cases c : v < 128
  · rw [zcb_1 v c]
    by_cases c1 : v < 97
    · rw [if_pos (show nI v < 97 from nI_lt (b := 97) c1 (by omega)), if_neg (znd (by omega))]
    · rw [if_neg (show ¬ nI v < 97 from nI_nlt (b := 97) (by omega) (by omega))]
      by_cases c2 : 122 < v
      · rw [if_pos (show (122 : Int32) < nI v from nI_lt (a := 122) c2 (by omega)), if_neg (znd (by omega))]
      · rw [if_neg (show ¬ (122 : Int32) < nI v from nI_nlt (a := 122) (by omega) (by omega)), if_pos (decide_eq_true (by omega))]
  · have := zcb_2 v hv (by omega)
    rw [if_pos (Int32.lt_trans this (by decide)), if_neg (znd (by omega))]
theorem S_dgC {v : Nat} (hv : v < 256) : zWM d 61 [.int (zcb v)] (sa, la, zRA pl dr cp cw rp) K = K (some (.int (if zdig v = true then 1 else 0))) (sa, la, zRA pl dr cp cw rp) := by
  rw [e61, b61_0]
  unfold zdig
  by_cases c : v < 128
  · rw [zcb_1 v c]
    by_cases c1 : v < 48
    · rw [if_pos (show nI v < 48 from nI_lt (b := 48) c1 (by omega)), if_neg (znd (by omega))]
    · rw [if_neg (show ¬ nI v < 48 from nI_nlt (b := 48) (by omega) (by omega))]
      by_cases c2 : 57 < v
      · rw [if_pos (show (57 : Int32) < nI v from nI_lt (a := 57) c2 (by omega)), if_neg (znd (by omega))]
      · rw [if_neg (show ¬ (57 : Int32) < nI v from nI_nlt (a := 57) (by omega) (by omega)), if_pos (decide_eq_true (by omega))]
  · have := zcb_2 v hv (by omega)
    rw [if_pos (Int32.lt_trans this (by decide)), if_neg (znd (by omega))]
/-- the class's reader: the tape's bytes, length and next -/
def zRd (b : Nat → Nat) (n i : Nat) (sa : Nat → Nat → Int32) : Prop := n ≤ 700 ∧ i ≤ n ∧ sa 2 3 = nI n ∧ sa 2 4 = nI i ∧ (∀ j, j < n → b j < 256 ∧ sa 3 j = zcb (b j))
theorem zRd_n {i j : Nat} (h : zRd b n i sa) (hj : j ≤ n) : zRd b n j (zu sa 2 4 (nI j)) := ⟨h.1, hj, by rw [zu_k (by decide)]; exact h.2.2.1, zu_eq _ _ _ _, fun k hk => ⟨(h.2.2.2.2 k hk).1, by rw [zu_o (by decide)]; exact (h.2.2.2.2 k hk).2⟩⟩
theorem S_skip : ∀ (f i : Nat) (sa : Nat → Nat → Int32), n ≤ i + f → zRd b n i sa → zWP d 59 0 [some (.ref 2)] [] (sa, la, zRA pl dr cp cw rp) K = zWP d 59 52 [some (.ref 2)] [] (zu sa 2 4 (nI (zrnx zspc b n f i)), la, zRA pl dr cp cw rp) K := by
  intro f
  induction f with
  | zero =>
    intro i sa hf hr
    obtain ⟨h7, hi, e3, e4, eb⟩ := hr
    rw [b59_0, e3, e4, if_pos (nI_le1 (by omega) (by omega))]
    show _ = zWP d 59 52 [some (.ref 2)] [] (zu sa 2 4 (nI i), la, zRA pl dr cp cw rp) K
    rw [← e4, zu_id]
  | succ f ih =>
    intro i sa hf hr
    have hr0 := hr
    obtain ⟨h7, hi, e3, e4, eb⟩ := hr
    unfold zrnx
    rw [b59_0, e3, e4]
    by_cases c : i < n
    · obtain ⟨q1, q2⟩ := eb i c
      rw [if_neg (nI_nle1 c (by omega)), zg (by omega) (by omega), zcln (by omega), q2, ns]
      by_cases c1 : b i = 10
      · rw [if_pos (show zcb (b i) = 10 from (zcb_eq (k := 10) q1 (by omega)).mpr c1), if_pos ⟨c, decide_eq_true (Or.inl c1)⟩, ih (i + 1) _ (by omega) (zRd_n hr0 (by omega)), zu_zu]
      · rw [if_neg (show ¬ zcb (b i) = 10 from fun z => c1 ((zcb_eq (k := 10) q1 (by omega)).mp z))]
        by_cases c2 : b i = 32
        · rw [if_neg (show ¬ ¬ zcb (b i) = 32 from fun z => z ((zcb_eq (k := 32) q1 (by omega)).mpr c2)), if_pos ⟨c, decide_eq_true (Or.inr c2)⟩, ih (i + 1) _ (by omega) (zRd_n hr0 (by omega)), zu_zu]
        · rw [if_pos (show ¬ zcb (b i) = 32 from fun z => c2 ((zcb_eq (k := 32) q1 (by omega)).mp z)), if_neg (show ¬ (i < n ∧ zspc (b i) = true) from fun z => by have := of_decide_eq_true z.2; omega), ← e4, zu_id]
    · rw [if_pos (nI_le1 (by omega) (by omega)), if_neg (fun z => c z.1), ← e4, zu_id]
theorem S_kw {x : Int32} : zWM d 63 [.ref 2, .int x] (sa, la, zRA pl dr cp cw rp) K = K (some (.int (if zfd (sa 4) x 20 0 = -1 then 3 else 20 + zfd (sa 4) x 20 0))) (sa, la, zRA pl dr cp cw rp) := by
  rw [e63, b63_0]
  have lp : ∀ m i : Nat, i + m = 20 → zWP d 63 2 [some (.ref 2), some (.int x), some (.int (nI i))] [] (sa, la, zRA pl dr cp cw rp) K = K (some (.int (if zfd (sa 4) x m i = -1 then 3 else 20 + zfd (sa 4) x m i))) (sa, la, zRA pl dr cp cw rp) := by
    intro m
    induction m with
    | zero => intro i hi; rw [b63_2, if_pos (show (20 : Int32) ≤ nI i from nI_le1 (a := 20) (by omega) (by omega))]; rfl
    | succ m ih =>
      intro i hi
      rw [b63_2, if_neg (show ¬ (20 : Int32) ≤ nI i from nI_nle1 (a := 20) (by omega) (by omega)), zg (by omega) (by omega), zcln (by omega), ns]
      unfold zfd
      by_cases h : sa 4 i = x
      · rw [if_neg (fun q => q h), if_pos h, if_neg (fun z => nI_pos (n := i) (by omega) (by rw [z]; decide))]
      · rw [if_pos h, if_neg h]; exact ih (i + 1) (by omega)
  exact lp 20 0 (by omega)
/-- a word of the class, from p on -/
theorem S_rword {p : Nat} (h0 : sa 2 7 = 0) (hr : zRd b n p sa) (hK : ∀ ja : Nat → Nat → Int32, (∀ c k, ja c k = if c = 2 ∧ k = 4 then nI (zrnx zsml b n n p) else if c = 2 ∧ k = 7 then nI (zpv b p (zrnx zsml b n n p - p)) else if c = 2 ∧ k = 5 then (if zrnx zsml b n n p - p ≤ 6 then (if zfd (sa 4) (nI (zpv b p (zrnx zsml b n n p - p))) 20 0 = -1 then 3 else 20 + zfd (sa 4) (nI (zpv b p (zrnx zsml b n n p - p))) 20 0) else 1) else sa c k) → K none (ja, la, zRA pl dr cp cw rp)) : zWM (d + 1) 62 [.ref 2] (sa, la, zRA pl dr cp cw rp) K := by
  obtain ⟨h7, hp, e3, e4, eb⟩ := hr
  have lp : ∀ (f m : Nat) (ja : Nat → Nat → Int32), n ≤ p + m + f → p + m ≤ n → zrnx zsml b n n p = zrnx zsml b n f (p + m) → (∀ j, p ≤ j → j < p + m → zsml (b j) = true) → (∀ c k, ja c k = if c = 2 ∧ k = 4 then nI (p + m) else if c = 2 ∧ k = 7 then nI (zpv b p m) else sa c k) → zWP (d + 1) 62 2 [some (.ref 2), some (.int (nI m))] [] (ja, la, zRA pl dr cp cw rp) K := by
    intro f
    induction f with
    | zero =>
      intro m ja hf hm hz hs hja
      have er : zrnx zsml b n n p = p + m := hz
      have e23 : ja 2 3 = nI n := by rw [hja, if_neg (by omega), if_neg (by omega)]; exact e3
      have e24 : ja 2 4 = nI (p + m) := by rw [hja, if_pos ⟨rfl, rfl⟩]
      rw [b62_2, e23, e24, if_pos (nI_le1 (by omega) (by omega)), b62_72]
      rw [er, show p + m - p = m by omega] at hK
      by_cases c : m ≤ 6
      · rw [if_pos (show nI m ≤ 6 from nI_le1 (b := 6) c (by omega)), S_kw, kS, b62_91]
        refine hK _ (fun c' k => ?_)
        have e47 : ja 2 7 = nI (zpv b p m) := by rw [hja, if_neg (by omega), if_pos ⟨rfl, rfl⟩]
        have e44 : ja 4 = sa 4 := by funext k; rw [hja, if_neg (by omega), if_neg (by omega)]
        rw [zu_at, e47, e44, hja]
        by_cases q5 : c' = 2 ∧ k = 5
        · rw [if_pos q5, if_neg (show ¬ (c' = 2 ∧ k = 4) by omega), if_neg (show ¬ (c' = 2 ∧ k = 7) by omega), if_pos q5, if_pos c]
        · rw [if_neg q5, if_neg q5]
      · rw [if_neg (show ¬ nI m ≤ 6 from nI_nle1 (b := 6) (by omega) (by omega))]
        refine hK _ (fun c' k => ?_)
        rw [zu_at, hja]
        by_cases q5 : c' = 2 ∧ k = 5
        · rw [if_pos q5, if_neg (show ¬ (c' = 2 ∧ k = 4) by omega), if_neg (show ¬ (c' = 2 ∧ k = 7) by omega), if_pos q5, if_neg c]
        · rw [if_neg q5, if_neg q5]
    | succ f ih =>
      intro m ja hf hm hz hs hja
      have stop : zrnx zsml b n n p = p + m → zWP (d + 1) 62 72 [some (.ref 2), some (.int (nI m))] [] (ja, la, zRA pl dr cp cw rp) K := by
        intro er
        rw [b62_72]
        rw [er, show p + m - p = m by omega] at hK
        by_cases c : m ≤ 6
        · rw [if_pos (show nI m ≤ 6 from nI_le1 (b := 6) c (by omega)), S_kw, kS, b62_91]
          refine hK _ (fun c' k => ?_)
          have e47 : ja 2 7 = nI (zpv b p m) := by rw [hja, if_neg (by omega), if_pos ⟨rfl, rfl⟩]
          have e44 : ja 4 = sa 4 := by funext k; rw [hja, if_neg (by omega), if_neg (by omega)]
          rw [zu_at, e47, e44, hja]
          by_cases q5 : c' = 2 ∧ k = 5
          · rw [if_pos q5, if_neg (show ¬ (c' = 2 ∧ k = 4) by omega), if_neg (show ¬ (c' = 2 ∧ k = 7) by omega), if_pos q5, if_pos c]
          · rw [if_neg q5, if_neg q5]
        · rw [if_neg (show ¬ nI m ≤ 6 from nI_nle1 (b := 6) (by omega) (by omega))]
          refine hK _ (fun c' k => ?_)
          rw [zu_at, hja]
          by_cases q5 : c' = 2 ∧ k = 5
          · rw [if_pos q5, if_neg (show ¬ (c' = 2 ∧ k = 4) by omega), if_neg (show ¬ (c' = 2 ∧ k = 7) by omega), if_pos q5, if_neg c]
          · rw [if_neg q5, if_neg q5]
      have e24 : ja 2 4 = nI (p + m) := by rw [hja, if_pos ⟨rfl, rfl⟩]
      have e27 : ja 2 7 = nI (zpv b p m) := by rw [hja, if_neg (by omega), if_pos ⟨rfl, rfl⟩]
      have e3j : ja 3 = sa 3 := by funext k; rw [hja, if_neg (by omega), if_neg (by omega)]
      have e23 : ja 2 3 = nI n := by rw [hja, if_neg (by omega), if_neg (by omega)]; exact e3
      rw [b62_2, e23, e24]
      by_cases c : p + m < n
      · obtain ⟨q1, q2⟩ := eb (p + m) c
        rw [if_neg (nI_nle1 c (by omega)), zg (by omega) (by omega), zcln (by omega), e3j, q2, S_smC q1, kS, b62_25]
        by_cases cs : zsml (b (p + m)) = true
        · have hz' : zrnx zsml b n n p = zrnx zsml b n f (p + (m + 1)) := by rw [hz]; show (if p + m < n ∧ zsml (b (p + m)) = true then zrnx zsml b n f (p + m + 1) else p + m) = _; rw [if_pos ⟨c, cs⟩]; rfl
          have hb := of_decide_eq_true cs
          rw [if_pos cs, if_neg (by decide), ns, e24, ns]
          have nx := fun jb hjb => ih (m + 1) jb (by omega) (by omega) hz' (fun j h1 h2 => by
            by_cases e : j = p + m
            · rw [e]; exact cs
            · exact hs j h1 (by omega)) hjb
          by_cases c6 : 6 ≤ m
          · rw [if_pos (show (6 : Int32) ≤ nI m from nI_le1 (a := 6) c6 (by omega))]
            refine nx _ (fun c' k => ?_)
            rw [zu_at, hja]
            have e7 : zpv b p (m + 1) = zpv b p m := by show (if m < 6 then _ else _) = _; rw [if_neg (by omega)]
            rw [e7]
            by_cases q4 : c' = 2 ∧ k = 4
            · rw [if_pos q4, if_pos q4]; rfl
            · rw [if_neg q4, if_neg q4, if_neg q4]
          · rw [if_neg (show ¬ (6 : Int32) ≤ nI m from nI_nle1 (a := 6) (by omega) (by omega)), zg (by omega) (by omega), zcln (by omega), e3j, q2, zcb_1 _ (by omega), e56, b56_0, kS, b62_52, e27, ns]
            have ev : nI (zpv b p m) ||| ((nI (b (p + m)) - 97 + 1) <<< ((5 * (5 - nI m)) &&& 31)) = nI (zpv b p (m + 1)) := by
              have e1 : nI (b (p + m)) - 97 + 1 = nI (b (p + m) - 96) := by rw [show (97 : Int32) = nI 97 from rfl, pk_sub (by omega), ns]; congr 1; omega
              have e2 : (5 : Int32) * (5 - nI m) = nI (5 * (5 - m)) := by rw [show (5 : Int32) = nI 5 from rfl, pk_sub (by omega), pk_mul]
              have e3 : ∀ m, m < 6 → ((nI (5 * (5 - m)) &&& 31).toBitVec.smod 32).toNat = 5 * (5 - m) := by decide +kernel
              have hpw : (b (p + m) - 96) * 2 ^ (5 * (5 - m)) < 2 ^ 32 := by
                have h1 : b (p + m) - 96 ≤ 26 := by omega
                have h2 : 2 ^ (5 * (5 - m)) ≤ 2 ^ 25 := Nat.pow_le_pow_right (by decide) (by omega)
                calc (b (p + m) - 96) * 2 ^ (5 * (5 - m)) ≤ 26 * 2 ^ 25 := Nat.mul_le_mul h1 h2
                  _ < 2 ^ 32 := by decide
              rw [e1, e2, pk_shlN _ (5 * (5 - m)) (e3 m (by omega)) hpw, nI_or]
              show _ = nI (if m < 6 then _ else _)
              rw [if_pos (by omega)]
            rw [ev]
            refine nx _ (fun c' k => ?_)
            rw [zu_at, zu_at, zu_at, if_neg (show ¬ (2 = 2 ∧ 4 = 7) by omega), e24, ns, hja]
            by_cases q4 : c' = 2 ∧ k = 4
            · rw [if_pos q4, if_pos q4]; rfl
            · rw [if_neg q4, if_neg q4, if_neg q4]
              by_cases q7 : c' = 2 ∧ k = 7
              · rw [if_pos q7, if_pos q7]
              · rw [if_neg q7, if_neg q7, if_neg q7]
        · rw [if_neg cs, if_pos rfl]
          exact stop (by rw [hz]; show (if p + m < n ∧ zsml (b (p + m)) = true then _ else p + m) = _; rw [if_neg (fun z => cs z.2)])
      · rw [if_pos (nI_le1 (by omega) (by omega))]
        exact stop (by rw [hz]; show (if p + m < n ∧ zsml (b (p + m)) = true then _ else p + m) = _; rw [if_neg (fun z => c z.1)])
  rw [e62, b62_0]
  refine lp n 0 sa (by omega) hp rfl (fun j h1 h2 => by omega) (fun c k => ?_)
  by_cases q4 : c = 2 ∧ k = 4
  · rw [if_pos q4, q4.1, q4.2]; exact e4
  · rw [if_neg q4]
    by_cases q7 : c = 2 ∧ k = 7
    · rw [if_pos q7, q7.1, q7.2]; exact h0
    · rw [if_neg q7]
/-- a number as the class reads it -/
def zcnv (b : Nat → Nat) (p : Nat) : Nat → Nat
  | 0 => 0
  | m + 1 => if zcnv b p m < 1000000 then zcnv b p m * 10 + (b (p + m) - 48) else zcnv b p m
theorem zcnv_b (b : Nat → Nat) (p : Nat) : ∀ m, (∀ j, j < m → zdig (b (p + j)) = true) → zcnv b p m < 10000000 := by
  intro m
  induction m with
  | zero => intro _; show 0 < 10000000; omega
  | succ m ih =>
    intro h
    have h1 := ih (fun j hj => h j (by omega))
    have h2 := of_decide_eq_true (h m (by omega))
    show (if zcnv b p m < 1000000 then zcnv b p m * 10 + (b (p + m) - 48) else zcnv b p m) < 10000000
    split <;> omega
theorem S_rnum {p : Nat} (h0 : sa 2 7 = 0) (hr : zRd b n p sa) (hK : ∀ ja : Nat → Nat → Int32, (∀ c k, ja c k = if c = 2 ∧ k = 4 then nI (zrnx zdig b n n p) else if c = 2 ∧ k = 7 then nI (zcnv b p (zrnx zdig b n n p - p)) else if c = 2 ∧ k = 5 then 2 else sa c k) → K none (ja, la, zRA pl dr cp cw rp)) : zWM (d + 1) 64 [.ref 2] (sa, la, zRA pl dr cp cw rp) K := by
  obtain ⟨h7, hp, e3, e4, eb⟩ := hr
  have lp : ∀ (f m : Nat) (ja : Nat → Nat → Int32), n ≤ p + m + f → p + m ≤ n → zrnx zdig b n n p = zrnx zdig b n f (p + m) → (∀ j, j < m → zdig (b (p + j)) = true) → (∀ c k, ja c k = if c = 2 ∧ k = 4 then nI (p + m) else if c = 2 ∧ k = 7 then nI (zcnv b p m) else if c = 2 ∧ k = 5 then 2 else sa c k) → zWP (d + 1) 64 5 [some (.ref 2)] [] (ja, la, zRA pl dr cp cw rp) K := by
    intro f
    induction f with
    | zero =>
      intro m ja hf hm hz hs hja
      have er : zrnx zdig b n n p = p + m := hz
      have e23 : ja 2 3 = nI n := by rw [hja, if_neg (by omega), if_neg (by omega), if_neg (by omega)]; exact e3
      have e24 : ja 2 4 = nI (p + m) := by rw [hja, if_pos ⟨rfl, rfl⟩]
      rw [b64_5, e23, e24, if_pos (nI_le1 (by omega) (by omega))]
      rw [er, show p + m - p = m by omega] at hK
      exact hK ja hja
    | succ f ih =>
      intro m ja hf hm hz hs hja
      have stop : zrnx zdig b n n p = p + m → K none (ja, la, zRA pl dr cp cw rp) := by
        intro er
        rw [er, show p + m - p = m by omega] at hK
        exact hK ja hja
      have e23 : ja 2 3 = nI n := by rw [hja, if_neg (by omega), if_neg (by omega), if_neg (by omega)]; exact e3
      have e24 : ja 2 4 = nI (p + m) := by rw [hja, if_pos ⟨rfl, rfl⟩]
      have e27 : ja 2 7 = nI (zcnv b p m) := by rw [hja, if_neg (by omega), if_pos ⟨rfl, rfl⟩]
      have e3j : ja 3 = sa 3 := by funext k; rw [hja, if_neg (by omega), if_neg (by omega), if_neg (by omega)]
      rw [b64_5, e23, e24]
      by_cases c : p + m < n
      · obtain ⟨q1, q2⟩ := eb (p + m) c
        rw [if_neg (nI_nle1 c (by omega)), zg (by omega) (by omega), zcln (by omega), e3j, q2, S_dgC q1, kS, b64_28]
        by_cases cs : zdig (b (p + m)) = true
        · have hz' : zrnx zdig b n n p = zrnx zdig b n f (p + (m + 1)) := by rw [hz]; show (if p + m < n ∧ zdig (b (p + m)) = true then zrnx zdig b n f (p + m + 1) else p + m) = _; rw [if_pos ⟨c, cs⟩]; rfl
          have hb := of_decide_eq_true cs
          have hbd := zcnv_b b p m hs
          rw [if_pos cs, if_neg (by decide), e27, e24, ns]
          have nx := fun jb hjb => ih (m + 1) jb (by omega) (by omega) hz' (fun j hj => by
            by_cases e : j = m
            · rw [e]; exact cs
            · exact hs j (by omega)) hjb
          have ev : zcnv b p (m + 1) = if zcnv b p m < 1000000 then zcnv b p m * 10 + (b (p + m) - 48) else zcnv b p m := rfl
          by_cases c6 : zcnv b p m < 1000000
          · rw [if_neg (show ¬ (1000000 : Int32) ≤ nI (zcnv b p m) from nI_ge (b := 1000000) c6 (by omega)), zg (by omega) (by omega), zcln (by omega), e3j, q2, zcb_1 _ (by omega), zu_k (show (4 : Nat) ≠ 7 by decide), e24, ns]
            have e10 : nI (zcnv b p m) * 10 + nI (b (p + m)) - 48 = nI (zcnv b p (m + 1)) := by
              rw [show (10 : Int32) = nI 10 from rfl, pk_mul, nI_add, show (48 : Int32) = nI 48 from rfl, pk_sub (by omega), ev, if_pos c6]
              congr 1
              omega
            rw [e10]
            refine nx _ (fun c' k => ?_)
            rw [zu_at, zu_at, hja]
            by_cases q4 : c' = 2 ∧ k = 4
            · rw [if_pos q4, if_pos q4]; rfl
            · rw [if_neg q4, if_neg q4, if_neg q4]
              by_cases q7 : c' = 2 ∧ k = 7
              · rw [if_pos q7, if_pos q7]
              · rw [if_neg q7, if_neg q7, if_neg q7]
          · rw [if_pos (show (1000000 : Int32) ≤ nI (zcnv b p m) from nI_le (a := 1000000) (by omega) (by omega))]
            refine nx _ (fun c' k => ?_)
            rw [ev, if_neg c6, zu_at, hja]
            by_cases q4 : c' = 2 ∧ k = 4
            · rw [if_pos q4, if_pos q4]; rfl
            · rw [if_neg q4, if_neg q4, if_neg q4]
        · rw [if_neg cs, if_pos rfl]
          exact stop (by rw [hz]; show (if p + m < n ∧ zdig (b (p + m)) = true then _ else p + m) = _; rw [if_neg (fun z => cs z.2)])
      · rw [if_pos (nI_le1 (by omega) (by omega))]
        exact stop (by rw [hz]; show (if p + m < n ∧ zdig (b (p + m)) = true then _ else p + m) = _; rw [if_neg (fun z => c z.1)])
  rw [e64, b64_0]
  refine lp n 0 _ (by omega) hp rfl (fun j hj => by omega) (fun c k => ?_)
  rw [zu_at]
  by_cases q4 : c = 2 ∧ k = 4
  · rw [if_neg (by omega), if_pos q4, q4.1, q4.2]; exact e4
  · rw [if_neg q4]
    by_cases q7 : c = 2 ∧ k = 7
    · rw [if_neg (by omega), if_pos q7, q7.1, q7.2]; exact h0
    · rw [if_neg q7]
/-- the kind of a sign -/
def zsk1 (b : Nat) : Nat := if b = 40 then 5 else if b = 41 then 6 else if b = 42 then 15 else if b = 43 then 13 else if b = 45 then 14 else if b = 47 then 16 else if b = 59 then 4 else if b = 60 then 7 else if b = 61 then 9 else if b = 62 then 12 else 1
theorem S_ks {v : Nat} (hv : v < 256) : zWM d 66 [.int (zcb v)] (sa, la, zRA pl dr cp cw rp) K = K (some (.int (nI (zsk1 v)))) (sa, la, zRA pl dr cp cw rp) := by
  rw [e66, b66_0]
  have z : ∀ k : Nat, k < 128 → (zcb v = nI k) = (v = k) := fun k hk => propext (zcb_eq hv hk)
  rw [show (40 : Int32) = nI 40 from rfl, show (41 : Int32) = nI 41 from rfl, show (42 : Int32) = nI 42 from rfl, show (43 : Int32) = nI 43 from rfl, show (44 : Int32) = nI 44 from rfl, show (45 : Int32) = nI 45 from rfl, show (46 : Int32) = nI 46 from rfl, show (47 : Int32) = nI 47 from rfl, show (48 : Int32) = nI 48 from rfl, show (49 : Int32) = nI 49 from rfl, show (50 : Int32) = nI 50 from rfl, show (51 : Int32) = nI 51 from rfl, show (52 : Int32) = nI 52 from rfl, show (53 : Int32) = nI 53 from rfl, show (54 : Int32) = nI 54 from rfl, show (55 : Int32) = nI 55 from rfl, show (56 : Int32) = nI 56 from rfl, show (57 : Int32) = nI 57 from rfl, show (58 : Int32) = nI 58 from rfl, show (59 : Int32) = nI 59 from rfl, show (60 : Int32) = nI 60 from rfl, show (61 : Int32) = nI 61 from rfl, show (62 : Int32) = nI 62 from rfl]
  simp only [z 40 (by decide), z 41 (by decide), z 42 (by decide), z 43 (by decide), z 44 (by decide), z 45 (by decide), z 46 (by decide), z 47 (by decide), z 48 (by decide), z 49 (by decide), z 50 (by decide), z 51 (by decide), z 52 (by decide), z 53 (by decide), z 54 (by decide), z 55 (by decide), z 56 (by decide), z 57 (by decide), z 58 (by decide), z 59 (by decide), z 60 (by decide), z 61 (by decide), z 62 (by decide)]
  unfold zsk1
  by_cases c40 : v = 40
  · rw [if_pos c40, if_pos c40]; rfl
  rw [if_neg c40, if_neg c40]
  by_cases c41 : v = 41
  · rw [if_pos c41, if_pos c41]; rfl
  rw [if_neg c41, if_neg c41]
  by_cases c42 : v = 42
  · rw [if_pos c42, if_pos c42]; rfl
  rw [if_neg c42, if_neg c42]
  by_cases c43 : v = 43
  · rw [if_pos c43, if_pos c43]; rfl
  rw [if_neg c43, if_neg c43]
  by_cases c44 : v = 44
  · subst c44; rfl
  rw [if_neg c44]
  by_cases c45 : v = 45
  · rw [if_pos c45, if_pos c45]; rfl
  rw [if_neg c45, if_neg c45]
  by_cases c46 : v = 46
  · subst c46; rfl
  rw [if_neg c46]
  by_cases c47 : v = 47
  · rw [if_pos c47, if_pos c47]; rfl
  rw [if_neg c47, if_neg c47]
  by_cases cd : 48 ≤ v ∧ v ≤ 58
  · have e : v = 48 ∨ v = 49 ∨ v = 50 ∨ v = 51 ∨ v = 52 ∨ v = 53 ∨ v = 54 ∨ v = 55 ∨ v = 56 ∨ v = 57 ∨ v = 58 := by omega
    rcases e with e | e | e | e | e | e | e | e | e | e | e <;> subst e <;> rfl
  rw [if_neg (show ¬ v = 48 by omega), if_neg (show ¬ v = 49 by omega), if_neg (show ¬ v = 50 by omega), if_neg (show ¬ v = 51 by omega), if_neg (show ¬ v = 52 by omega), if_neg (show ¬ v = 53 by omega), if_neg (show ¬ v = 54 by omega), if_neg (show ¬ v = 55 by omega), if_neg (show ¬ v = 56 by omega), if_neg (show ¬ v = 57 by omega), if_neg (show ¬ v = 58 by omega)]
  by_cases c59 : v = 59
  · rw [if_pos c59, if_pos c59]; rfl
  rw [if_neg c59, if_neg c59]
  by_cases c60 : v = 60
  · rw [if_pos c60, if_pos c60]; rfl
  rw [if_neg c60, if_neg c60]
  by_cases c61 : v = 61
  · rw [if_pos c61, if_pos c61]; rfl
  rw [if_neg c61, if_neg c61]
  by_cases c62 : v = 62
  · rw [if_pos c62, if_pos c62]; rfl
  rw [if_neg c62, if_neg c62]
  rfl
end ZP
