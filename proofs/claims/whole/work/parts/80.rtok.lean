/-! a token of the reference, whole -/
/-- the reference's reader: the tape's bytes, length and next -/
def zRr (b : Nat → Nat) (n i : Nat) (sa : Nat → Nat → Int32) : Prop := n ≤ 700 ∧ i ≤ n ∧ sa 127 21 = nI n ∧ sa 127 22 = nI i ∧ (∀ j, j < n → b j < 256 ∧ sa 128 j = nI (b j))
def zhr (b : Nat → Nat) (n i : Nat) : Int32 := if i < n then nI (b i) else -1
/-- a number as the reference reads it -/
def zrnv (b : Nat → Nat) (p : Nat) : Nat → Nat
  | 0 => 0
  | m + 1 => if zrnv b p m ≤ 99999 then 10 * zrnv b p m + (b (p + m) - 48) else zrnv b p m
theorem zrnv_b (b : Nat → Nat) (p : Nat) : ∀ m, (∀ j, j < m → zdig (b (p + j)) = true) → zrnv b p m < 1000000 ∧ ((zcnv b p m ≤ 99999 ∧ zrnv b p m = zcnv b p m) ∨ (99999 < zcnv b p m ∧ 99999 < zrnv b p m)) := by
  intro m
  induction m with
  | zero => intro _; exact ⟨by show 0 < 1000000; omega, Or.inl ⟨by show 0 ≤ 99999; omega, rfl⟩⟩
  | succ m ih =>
    intro h
    have h1 := ih (fun j hj => h j (by omega))
    have h2 := of_decide_eq_true (h m (by omega))
    have u1 : zrnv b p (m + 1) = if zrnv b p m ≤ 99999 then 10 * zrnv b p m + (b (p + m) - 48) else zrnv b p m := rfl
    have u2 : zcnv b p (m + 1) = if zcnv b p m < 1000000 then zcnv b p m * 10 + (b (p + m) - 48) else zcnv b p m := rfl
    rw [u1, u2]
    split <;> split <;> omega
/-- the kind of the token from i on -/
def zkN (b : Nat → Nat) (n i : Nat) : Nat := if n ≤ zTp b n i then 0 else if zsml (b (zTp b n i)) = true then (if zrnx zsml b n n (zTp b n i) - zTp b n i ≤ 6 then (if zWx (zpv b (zTp b n i) (zrnx zsml b n n (zTp b n i) - zTp b n i)) 20 0 = 20 then 3 else 20 + zWx (zpv b (zTp b n i) (zrnx zsml b n n (zTp b n i) - zTp b n i)) 20 0) else 1) else if zdig (b (zTp b n i)) = true then 2 else (zSn b n (zTp b n i)).1
def zsc (k : Nat) : Int32 := if k = 4 then 59 else if k = 5 then 40 else if k = 6 then 41 else zsg (nI k)
/-- a token of the class and one of the reference -/
def zTR (k v : Nat) (s u : Int32) : Prop := (k = 0 ∧ s = 4) ∨ (k = 1 ∧ s = 5) ∨ (k = 2 ∧ s = 2 ∧ ((v ≤ 99999 ∧ u = nI v) ∨ (99999 < v ∧ 99999 < u))) ∨ (k = 3 ∧ s = 1 ∧ u = nI v) ∨ (4 ≤ k ∧ k ≤ 16 ∧ s = 3 ∧ u = zsc k) ∨ (20 ≤ k ∧ k < 40 ∧ s = 0 ∧ u = nI (k - 20))
section ZP
variable {d pl dr n : Nat} {cp cw rp : Option Nat} {b : Nat → Nat} {ia sa : Nat → Nat → Int32} {la : Nat → Nat → Int64} {K : Option Value → zHP → Prop}
theorem zRr_n {i j : Nat} (h : zRr b n i sa) (hj : j ≤ n) : zRr b n j (zu sa 127 22 (nI j)) := ⟨h.1, hj, by rw [zu_k (by decide)]; exact h.2.2.1, zu_eq _ _ _ _, fun k hk => ⟨(h.2.2.2.2 k hk).1, by rw [zu_o (by decide)]; exact (h.2.2.2.2 k hk).2⟩⟩
theorem zRr_k {i k : Nat} {v : Int32} (h : zRr b n i sa) (h1 : k ≠ 21) (h2 : k ≠ 22) : zRr b n i (zu sa 127 k v) := ⟨h.1, h.2.1, by rw [zu_k (Ne.symm h1)]; exact h.2.2.1, by rw [zu_k (Ne.symm h2)]; exact h.2.2.2.1, fun k hk => ⟨(h.2.2.2.2 k hk).1, by rw [zu_o (by decide)]; exact (h.2.2.2.2 k hk).2⟩⟩
theorem S_here {i : Nat} (hr : zRr b n i sa) : zWM d 130 [.ref 127] (sa, la, zRA pl dr cp cw rp) K = K (some (.int (zhr b n i))) (sa, la, zRA pl dr cp cw rp) := by
  obtain ⟨h7, hi, e1, e2, eb⟩ := hr
  unfold zhr
  rw [e130, b130_0, e1, e2]
  by_cases c : i < n
  · rw [if_neg (nI_nle1 c (by omega)), zg (by omega) (by omega), zcln (by omega), (eb i c).2, if_pos c]
  · rw [if_pos (nI_le1 (by omega) (by omega)), if_neg c]
theorem zhr_e {i k : Nat} (hr : zRr b n i sa) (hk : k < 256) : zhr b n i = nI k ↔ i < n ∧ b i = k := by
  unfold zhr
  by_cases c : i < n
  · have := (hr.2.2.2.2 i c).1
    rw [if_pos c, nI_eq (by omega) (by omega)]
    exact ⟨fun y => ⟨c, y⟩, fun y => y.2⟩
  · rw [if_neg c]
    exact ⟨fun y => absurd (show nI k < 0 by rw [← y]; decide) (nI_pos (by omega)), fun y => absurd y.1 c⟩
theorem S_smR {v : Nat} (hv : v < 256) : zWM d 131 [.int (nI v)] (sa, la, zRA pl dr cp cw rp) K = K (some (.int (if zsml v = true then 1 else 0))) (sa, la, zRA pl dr cp cw rp) := by
  rw [e131, b131_0]
  unfold zsml
  by_cases c1 : v < 97
  · rw [if_pos (show nI v < 97 from nI_lt (b := 97) c1 (by omega)), if_neg (znd (by omega))]
  · rw [if_neg (show ¬ nI v < 97 from nI_nlt (b := 97) (by omega) (by omega))]
    by_cases c2 : 122 < v
    · rw [if_pos (show (122 : Int32) < nI v from nI_lt (a := 122) c2 (by omega)), if_neg (znd (by omega))]
    · rw [if_neg (show ¬ (122 : Int32) < nI v from nI_nlt (a := 122) (by omega) (by omega)), if_pos (decide_eq_true (by omega))]
theorem S_dgR {v : Nat} (hv : v < 256) : zWM d 132 [.int (nI v)] (sa, la, zRA pl dr cp cw rp) K = K (some (.int (if zdig v = true then 1 else 0))) (sa, la, zRA pl dr cp cw rp) := by
  rw [e132, b132_0]
  unfold zdig
  by_cases c1 : v < 48
  · rw [if_pos (show nI v < 48 from nI_lt (b := 48) c1 (by omega)), if_neg (znd (by omega))]
  · rw [if_neg (show ¬ nI v < 48 from nI_nlt (b := 48) (by omega) (by omega))]
    by_cases c2 : 57 < v
    · rw [if_pos (show (57 : Int32) < nI v from nI_lt (a := 57) c2 (by omega)), if_neg (znd (by omega))]
    · rw [if_neg (show ¬ (57 : Int32) < nI v from nI_nlt (a := 57) (by omega) (by omega)), if_pos (decide_eq_true (by omega))]
theorem S_smH {i : Nat} (hr : zRr b n i sa) : zWM d 131 [.int (zhr b n i)] (sa, la, zRA pl dr cp cw rp) K = K (some (.int (if i < n ∧ zsml (b i) = true then 1 else 0))) (sa, la, zRA pl dr cp cw rp) := by
  unfold zhr
  by_cases c : i < n
  · rw [if_pos c, S_smR (hr.2.2.2.2 i c).1]
    by_cases c2 : zsml (b i) = true
    · rw [if_pos c2, if_pos ⟨c, c2⟩]
    · rw [if_neg c2, if_neg (fun y => c2 y.2)]
  · rw [if_neg c, if_neg (fun y => c y.1), e131, b131_0, if_pos (by decide)]
theorem S_dgH {i : Nat} (hr : zRr b n i sa) : zWM d 132 [.int (zhr b n i)] (sa, la, zRA pl dr cp cw rp) K = K (some (.int (if i < n ∧ zdig (b i) = true then 1 else 0))) (sa, la, zRA pl dr cp cw rp) := by
  unfold zhr
  by_cases c : i < n
  · rw [if_pos c, S_dgR (hr.2.2.2.2 i c).1]
    by_cases c2 : zdig (b i) = true
    · rw [if_pos c2, if_pos ⟨c, c2⟩]
    · rw [if_neg c2, if_neg (fun y => c2 y.2)]
  · rw [if_neg c, if_neg (fun y => c y.1), e132, b132_0, if_pos (by decide)]
theorem S_skR : ∀ (f i : Nat) (sa : Nat → Nat → Int32), n ≤ i + f → zRr b n i sa → zWP (d + 1) 133 0 [some (.ref 127), none] [] (sa, la, zRA pl dr cp cw rp) K = zWM d 130 [.ref 127] (zu (zu sa 127 22 (nI (zrnx zspc b n f i))) 127 23 (nI (zrnx zspc b n f i)), la, zRA pl dr cp cw rp) (zK (d + 1) 133 43 [some (.ref 127), none] [] K) := by
  intro f
  induction f with
  | zero =>
    intro i sa hf hr
    have e22 := hr.2.2.2.1
    have hi := hr.2.1
    rw [b133_0, S_here hr, kS, b133_4, if_neg (show ¬ zhr b n i = 10 from fun z => by have := ((zhr_e (k := 10) hr (by omega)).mp z).1; omega), S_here hr, kS, b133_13, if_pos (show ¬ zhr b n i = 32 from fun z => by have := ((zhr_e (k := 32) hr (by omega)).mp z).1; omega)]
    show _ = zWM d 130 [.ref 127] (zu (zu sa 127 22 (nI i)) 127 23 (nI i), la, zRA pl dr cp cw rp) (zK (d + 1) 133 43 [some (.ref 127), none] [] K)
    rw [← e22, zu_id]
  | succ f ih =>
    intro i sa hf hr
    have e22 := hr.2.2.2.1
    unfold zrnx
    rw [b133_0, S_here hr, kS, b133_4, S_here hr, kS, b133_13]
    by_cases c : i < n
    · by_cases c1 : b i = 10
      · rw [if_pos (show zhr b n i = 10 from (zhr_e (k := 10) hr (by omega)).mpr ⟨c, c1⟩), if_pos ⟨c, decide_eq_true (Or.inl c1)⟩, e22, ns, ih (i + 1) _ (by omega) (zRr_n hr (by omega)), zu_zu]
      · rw [if_neg (show ¬ zhr b n i = 10 from fun z => c1 ((zhr_e (k := 10) hr (by omega)).mp z).2)]
        by_cases c2 : b i = 32
        · rw [if_neg (show ¬ ¬ zhr b n i = 32 from fun z => z ((zhr_e (k := 32) hr (by omega)).mpr ⟨c, c2⟩)), if_pos ⟨c, decide_eq_true (Or.inr c2)⟩, e22, ns, ih (i + 1) _ (by omega) (zRr_n hr (by omega)), zu_zu]
        · rw [if_pos (show ¬ zhr b n i = 32 from fun z => c2 ((zhr_e (k := 32) hr (by omega)).mp z).2), if_neg (show ¬ (i < n ∧ zspc (b i) = true) from fun z => by have := of_decide_eq_true z.2; omega), ← e22, zu_id]
    · rw [if_neg (show ¬ zhr b n i = 10 from fun z => c ((zhr_e (k := 10) hr (by omega)).mp z).1), if_pos (show ¬ zhr b n i = 32 from fun z => c ((zhr_e (k := 32) hr (by omega)).mp z).1), if_neg (fun z => c z.1), ← e22, zu_id]
theorem S_smL {a1 : Int32} : ∀ (f i : Nat) (sa : Nat → Nat → Int32), n ≤ i + f → zRr b n i sa → zWP (d + 1) 133 64 [some (.ref 127), some (.int a1)] [] (sa, la, zRA pl dr cp cw rp) K = zWM d 135 [.ref 127] (zu sa 127 22 (nI (zrnx zsml b n f i)), la, zRA pl dr cp cw rp) (zK (d + 1) 133 92 [some (.ref 127), some (.int a1)] [.ref 127] K) := by
  intro f
  induction f with
  | zero =>
    intro i sa hf hr
    have e22 := hr.2.2.2.1
    have hi := hr.2.1
    rw [b133_64, S_here hr, kS, b133_68, S_smH hr, kS, b133_71, if_neg (show ¬ (i < n ∧ zsml (b i) = true) from fun y => by omega), if_pos rfl]
    show _ = zWM d 135 [.ref 127] (zu sa 127 22 (nI i), la, zRA pl dr cp cw rp) (zK (d + 1) 133 92 [some (.ref 127), some (.int a1)] [.ref 127] K)
    rw [← e22, zu_id]
  | succ f ih =>
    intro i sa hf hr
    have e22 := hr.2.2.2.1
    unfold zrnx
    rw [b133_64, S_here hr, kS, b133_68, S_smH hr, kS, b133_71]
    by_cases c : i < n ∧ zsml (b i) = true
    · rw [if_pos c, if_neg (by decide), if_pos c, e22, ns, ih (i + 1) _ (by omega) (zRr_n hr (by omega)), zu_zu]
    · rw [if_neg c, if_pos rfl, if_neg c, ← e22, zu_id]
theorem S_nmL {p : Nat} {a1 : Int32} (hr : zRr b n p sa) (h24 : sa 127 24 = 2) (h25 : sa 127 25 = 0) (hK : ∀ ja : Nat → Nat → Int32, (∀ c k, ja c k = if c = 127 ∧ k = 22 then nI (zrnx zdig b n n p) else if c = 127 ∧ k = 25 then nI (zrnv b p (zrnx zdig b n n p - p)) else sa c k) → K none (ja, la, zRA pl dr cp cw rp)) : zWP (d + 1) 133 162 [some (.ref 127), some (.int a1)] [] (sa, la, zRA pl dr cp cw rp) K := by
  have hp := hr.2.1
  have lp : ∀ (f m : Nat) (ja : Nat → Nat → Int32), n ≤ p + m + f → p + m ≤ n → zrnx zdig b n n p = zrnx zdig b n f (p + m) → (∀ j, j < m → zdig (b (p + j)) = true) → (∀ c k, ja c k = if c = 127 ∧ k = 22 then nI (p + m) else if c = 127 ∧ k = 25 then nI (zrnv b p m) else sa c k) → zWP (d + 1) 133 162 [some (.ref 127), some (.int a1)] [] (ja, la, zRA pl dr cp cw rp) K := by
    intro f
    induction f with
    | zero =>
      intro m ja hf hm hz hs hja
      have er : zrnx zdig b n n p = p + m := hz
      have hr2 : zRr b n (p + m) ja := ⟨hr.1, hm, by rw [hja, if_neg (by omega), if_neg (by omega)]; exact hr.2.2.1, by rw [hja, if_pos ⟨rfl, rfl⟩], fun j hj => ⟨(hr.2.2.2.2 j hj).1, by rw [hja, if_neg (by omega), if_neg (by omega)]; exact (hr.2.2.2.2 j hj).2⟩⟩
      rw [b133_162, S_here hr2, kS, b133_166, S_dgH hr2, kS, b133_169, if_neg (show ¬ (p + m < n ∧ zdig (b (p + m)) = true) from fun y => by omega), if_pos rfl]
      rw [er, show p + m - p = m by omega] at hK
      exact hK ja hja
    | succ f ih =>
      intro m ja hf hm hz hs hja
      have hr2 : zRr b n (p + m) ja := ⟨hr.1, hm, by rw [hja, if_neg (by omega), if_neg (by omega)]; exact hr.2.2.1, by rw [hja, if_pos ⟨rfl, rfl⟩], fun j hj => ⟨(hr.2.2.2.2 j hj).1, by rw [hja, if_neg (by omega), if_neg (by omega)]; exact (hr.2.2.2.2 j hj).2⟩⟩
      have e22 : ja 127 22 = nI (p + m) := hr2.2.2.2.1
      have e25 : ja 127 25 = nI (zrnv b p m) := by rw [hja, if_neg (by omega), if_pos ⟨rfl, rfl⟩]
      have ez : zrnx zdig b n (f + 1) (p + m) = if p + m < n ∧ zdig (b (p + m)) = true then zrnx zdig b n f (p + m + 1) else p + m := rfl
      rw [b133_162, S_here hr2, kS, b133_166, S_dgH hr2, kS, b133_169]
      by_cases c : p + m < n ∧ zdig (b (p + m)) = true
      · rw [ez, if_pos c] at hz
        have hb := of_decide_eq_true c.2
        obtain ⟨bd, _⟩ := zrnv_b b p m hs
        rw [if_pos c, if_neg (by decide), e25]
        have uv : zrnv b p (m + 1) = if zrnv b p m ≤ 99999 then 10 * zrnv b p m + (b (p + m) - 48) else zrnv b p m := rfl
        have nx := fun jb hjb => ih (m + 1) jb (by omega) (by omega) hz (fun j hj => by
          by_cases e : j = m
          · rw [e]; exact c.2
          · exact hs j (by omega)) hjb
        by_cases c9 : zrnv b p m ≤ 99999
        · rw [if_pos (show nI (zrnv b p m) ≤ 99999 from nI_le (b := 99999) c9 (by omega)), S_here hr2, kS, b133_200]
          have eh : zhr b n (p + m) = nI (b (p + m)) := by unfold zhr; rw [if_pos c.1]
          have e10 : 10 * nI (zrnv b p m) + nI (b (p + m)) - 48 = nI (zrnv b p (m + 1)) := by
            rw [show (10 : Int32) = nI 10 from rfl, pk_mul, nI_add, show (48 : Int32) = nI 48 from rfl, pk_sub (by omega), uv, if_pos c9]
            congr 1
            omega
          rw [eh, e10, zu_k (by decide), e22, ns]
          refine nx _ (fun c' k => ?_)
          rw [zu_at, zu_at, hja]
          by_cases q4 : c' = 127 ∧ k = 22
          · rw [if_pos q4, if_pos q4]; rfl
          · rw [if_neg q4, if_neg q4, if_neg q4]
            by_cases q7 : c' = 127 ∧ k = 25
            · rw [if_pos q7, if_pos q7]
            · rw [if_neg q7, if_neg q7, if_neg q7]
        · rw [if_neg (show ¬ nI (zrnv b p m) ≤ 99999 from nI_ge (a := 99999) (by omega) (by omega)), zu_k (by decide), e22, ns]
          refine nx _ (fun c' k => ?_)
          rw [uv, if_neg c9, zu_at, zu_at, hja]
          by_cases q4 : c' = 127 ∧ k = 22
          · rw [if_pos q4, if_pos q4]; rfl
          · rw [if_neg q4, if_neg q4, if_neg q4]
            by_cases q7 : c' = 127 ∧ k = 25
            · rw [if_pos q7, if_pos q7]
            · rw [if_neg q7, if_neg q7]
      · rw [if_neg c, if_pos rfl]
        rw [ez, if_neg c] at hz
        rw [hz, show p + m - p = m by omega] at hK
        exact hK ja hja
  refine lp n 0 sa (by omega) hp rfl (fun j hj => by omega) (fun c k => ?_)
  by_cases q4 : c = 127 ∧ k = 22
  · rw [if_pos q4, q4.1, q4.2]; exact hr.2.2.2.1
  · rw [if_neg q4]
    by_cases q7 : c = 127 ∧ k = 25
    · rw [if_pos q7, q7.1, q7.2]; exact h25
    · rw [if_neg q7]
end ZP
