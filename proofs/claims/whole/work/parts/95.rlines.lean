/-! lines, read by the reference -/
def yhf (c : Nat) : Nat := if c = 129 then 7 else if c = 130 then 6 else if c = 131 then 18 else if c = 132 then 6 else if c ≤ 137 then 10 else if c ≤ 140 then 12 else if c ≤ 142 then 3 else 64
def yUm (c k : Nat) : Prop := (c = 127 ∧ 19 ≤ k ∧ k ≤ 31 ∧ k ≠ 21 ∧ k ≠ 28 ∧ k ≠ 29) ∨ (129 ≤ c ∧ c ≤ 144 ∧ yhf c ≤ k)
def yFm (ia sa : Nat → Nat → Int32) : Prop := ∀ c k, ¬ yUm c k → sa c k = ia c k
/-- where the reference's draft has a place of the plan -/
def ymc1 (g k : Nat) : Nat := if g = 1 then 130 else if g = 2 then 131 else if g = 3 then 132 else if g < 15 then 133 + k else if g < 28 then 138 + k else if g = 28 then 129 else if g = 29 then 141 else 142
def ymc2 (g k : Nat) : Nat := if g = 1 then 6 + k else if g = 2 then 18 + k else if g = 3 then 6 + k else if g < 15 then 5 + g else if g < 28 then g - 4 else if g = 28 then 10 + k else 3 + k
def yDok (g k : Nat) : Prop := (g = 1 ∧ k < 6) ∨ (g = 2 ∧ k < 18) ∨ (g = 3 ∧ k < 6) ∨ (5 ≤ g ∧ g ≤ 14 ∧ k < 5) ∨ (16 ≤ g ∧ g ≤ 27 ∧ k < 3) ∨ (28 ≤ g ∧ g ≤ 30 ∧ k < 3)
def yTd (t u : Nat) : Prop := u < 2 ^ 20 ∧ (∀ j, j < 3 → u.testBit (3 + j) = t.testBit j) ∧ (∀ j, j < 3 → u.testBit (16 + j) = t.testBit (3 + j))
theorem ymc_v {g k : Nat} (h : yDok g k) : (ymc1 g k = 130 ∧ g = 1 ∧ ymc2 g k = 6 + k ∧ k < 6) ∨ (ymc1 g k = 131 ∧ g = 2 ∧ ymc2 g k = 18 + k ∧ k < 18) ∨ (ymc1 g k = 132 ∧ g = 3 ∧ ymc2 g k = 6 + k ∧ k < 6) ∨ (ymc1 g k = 133 + k ∧ 5 ≤ g ∧ g ≤ 14 ∧ ymc2 g k = 5 + g ∧ k < 5) ∨ (ymc1 g k = 138 + k ∧ 16 ≤ g ∧ g ≤ 27 ∧ ymc2 g k = g - 4 ∧ k < 3) ∨ (ymc1 g k = 129 ∧ g = 28 ∧ ymc2 g k = 10 + k ∧ k < 3) ∨ (ymc1 g k = 141 ∧ g = 29 ∧ ymc2 g k = 3 + k ∧ k < 3) ∨ (ymc1 g k = 142 ∧ g = 30 ∧ ymc2 g k = 3 + k ∧ k < 3) := by
  rcases h with ⟨rfl, h⟩ | ⟨rfl, h⟩ | ⟨rfl, h⟩ | ⟨h1, h2, h⟩ | ⟨h1, h2, h⟩ | ⟨h1, h2, h⟩
  · exact Or.inl ⟨rfl, rfl, rfl, h⟩
  · exact Or.inr (Or.inl ⟨rfl, rfl, rfl, h⟩)
  · exact Or.inr (Or.inr (Or.inl ⟨rfl, rfl, rfl, h⟩))
  · refine Or.inr (Or.inr (Or.inr (Or.inl ⟨?_, h1, h2, ?_, h⟩)))
    · unfold ymc1; rw [if_neg (by omega), if_neg (by omega), if_neg (by omega), if_pos (by omega)]
    · unfold ymc2; rw [if_neg (by omega), if_neg (by omega), if_neg (by omega), if_pos (by omega)]
  · refine Or.inr (Or.inr (Or.inr (Or.inr (Or.inl ⟨?_, h1, h2, ?_, h⟩))))
    · unfold ymc1; rw [if_neg (by omega), if_neg (by omega), if_neg (by omega), if_neg (by omega), if_pos (by omega)]
    · unfold ymc2; rw [if_neg (by omega), if_neg (by omega), if_neg (by omega), if_neg (by omega), if_pos (by omega)]
  · have hg : g = 28 ∨ g = 29 ∨ g = 30 := by omega
    rcases hg with rfl | rfl | rfl
    · exact Or.inr (Or.inr (Or.inr (Or.inr (Or.inr (Or.inl ⟨rfl, rfl, rfl, h⟩)))))
    · exact Or.inr (Or.inr (Or.inr (Or.inr (Or.inr (Or.inr (Or.inl ⟨rfl, rfl, rfl, h⟩))))))
    · exact Or.inr (Or.inr (Or.inr (Or.inr (Or.inr (Or.inr (Or.inr ⟨rfl, rfl, rfl, h⟩))))))
theorem ymc_i {g k g' k' : Nat} (h : yDok g k) (h' : yDok g' k') (e1 : ymc1 g' k' = ymc1 g k) (e2 : ymc2 g' k' = ymc2 g k) : g' = g ∧ k' = k := by
  rcases ymc_v h with h | h | h | h | h | h | h | h <;> rcases ymc_v h' with q | q | q | q | q | q | q | q <;> omega
theorem ymc_o {g k : Nat} (h : yDok g k) : 129 ≤ ymc1 g k ∧ ymc1 g k ≤ 142 ∧ (ymc1 g k = 129 → 10 ≤ ymc2 g k ∧ ymc2 g k ≤ 12) ∧ yUm (ymc1 g k) (ymc2 g k) := by
  rcases ymc_v h with h | h | h | h | h | h | h | h
  · exact ⟨by omega, by omega, by omega, Or.inr ⟨by omega, by omega, by rw [h.1, show yhf 130 = 6 from rfl]; omega⟩⟩
  · exact ⟨by omega, by omega, by omega, Or.inr ⟨by omega, by omega, by rw [h.1, show yhf 131 = 18 from rfl]; omega⟩⟩
  · exact ⟨by omega, by omega, by omega, Or.inr ⟨by omega, by omega, by rw [h.1, show yhf 132 = 6 from rfl]; omega⟩⟩
  · refine ⟨by omega, by omega, by omega, Or.inr ⟨by omega, by omega, ?_⟩⟩
    have : yhf (133 + k) = 10 := by unfold yhf; rw [if_neg (by omega), if_neg (by omega), if_neg (by omega), if_neg (by omega), if_pos (by omega)]
    rw [h.1, this]; omega
  · refine ⟨by omega, by omega, by omega, Or.inr ⟨by omega, by omega, ?_⟩⟩
    have : yhf (138 + k) = 12 := by unfold yhf; rw [if_neg (by omega), if_neg (by omega), if_neg (by omega), if_neg (by omega), if_neg (by omega), if_pos (by omega)]
    rw [h.1, this]; omega
  · exact ⟨by omega, by omega, by omega, Or.inr ⟨by omega, by omega, by rw [h.1, show yhf 129 = 7 from rfl]; omega⟩⟩
  · exact ⟨by omega, by omega, by omega, Or.inr ⟨by omega, by omega, by rw [h.1, show yhf 141 = 3 from rfl]; omega⟩⟩
  · exact ⟨by omega, by omega, by omega, Or.inr ⟨by omega, by omega, by rw [h.1, show yhf 142 = 3 from rfl]; omega⟩⟩
theorem yTd_o {t u w : Nat} (h : yTd t u) (hw : w < 3 ∨ w = 6) : yTd t (u ||| 2 ^ w) := by
  obtain ⟨h1, h2, h3⟩ := h
  refine ⟨yor_lt h1 (by omega), fun j hj => ?_, fun j hj => ?_⟩
  · rw [yor_t, h2 j hj, decide_eq_false (by omega), Bool.or_false]
  · rw [yor_t, h3 j hj, decide_eq_false (by omega), Bool.or_false]
theorem yTd_s {t u j : Nat} (h : yTd t u) (hj : j < 3) : yTd (t ||| 2 ^ j) (u ||| 2 ^ (3 + j)) := by
  obtain ⟨h1, h2, h3⟩ := h
  refine ⟨yor_lt h1 (by omega), fun k hk => ?_, fun k hk => ?_⟩
  · rw [yor_t, yor_t, h2 k hk]
    by_cases e : j = k
    · rw [decide_eq_true (by omega), decide_eq_true e]
    · rw [decide_eq_false (by omega), decide_eq_false e]
  · rw [yor_t, yor_t, h3 k hk, decide_eq_false (by omega), decide_eq_false (by omega)]
theorem yTd_l {t u j : Nat} (h : yTd t u) (hj : j < 3) : yTd (t ||| 2 ^ (3 + j)) (u ||| 2 ^ (16 + j)) := by
  obtain ⟨h1, h2, h3⟩ := h
  refine ⟨yor_lt h1 (by omega), fun k hk => ?_, fun k hk => ?_⟩
  · rw [yor_t, yor_t, h2 k hk, decide_eq_false (by omega), decide_eq_false (by omega)]
  · rw [yor_t, yor_t, h3 k hk]
    by_cases e : j = k
    · rw [decide_eq_true (by omega), decide_eq_true (by omega)]
    · rw [decide_eq_false (by omega), decide_eq_false (by omega)]
def yML (b : Nat → Nat) (n : Nat) (ia : Nat → Nat → Int32) (D : Nat → Nat → Prop) (i N L T t : Nat) (P : Nat → Nat → Nat) (l : List (Nat × Nat)) (ln : Nat) (sa : Nat → Nat → Int32) : Prop :=
  yTo b n i sa ∧ sa 127 26 = 0 ∧ sa 127 27 = -1 ∧ (∃ u, sa 127 19 = nI u ∧ yTd t u) ∧ sa 127 20 = nI ln ∧ sa 127 30 = nI 0 ∧ sa 127 31 = nI l.length ∧ sa 129 7 = nI N ∧ sa 129 8 = nI L ∧ sa 129 9 = nI T ∧ sa 129 13 = nI l.length ∧ (∀ g k, D g k → yDok g k ∧ sa (ymc1 g k) (ymc2 g k) = nI (P g k)) ∧ yKr l sa ∧ yFm ia sa
def yMe (ia : Nat → Nat → Int32) (e : Nat × Nat) (sa : Nat → Nat → Int32) : Prop := sa 127 26 = nI e.1 ∧ sa 127 27 = nI e.2 ∧ (e.1 ≠ 0 ∧ e.1 < 10) ∧ yFm ia sa
theorem yMe_n {ia sa : Nat → Nat → Int32} {e : Nat × Nat} (h : yMe ia e sa) : ¬ sa 127 26 = 0 := by
  obtain ⟨h1, _, ⟨h2, h3⟩, _⟩ := h
  rw [h1]
  intro z
  exact h2 ((nI_eq (b := 0) (by omega) (by omega)).mp z)
section ZP
variable {d pl dr n i N L T t ln : Nat} {cp cw rp : Option Nat} {b : Nat → Nat} {ia sa : Nat → Nat → Int32} {la : Nat → Nat → Int64} {K : Option Value → zHP → Prop} {l : List (Nat × Nat)} {P : Nat → Nat → Nat} {D : Nat → Nat → Prop} {e : Nat × Nat}
theorem yFm_u {c k : Nat} {v : Int32} (h : yFm ia sa) (hw : yUm c k) : yFm ia (zu sa c k v) := fun a q hn => by
  rw [zu_at, if_neg (fun z => hn (by rw [z.1, z.2]; exact hw))]; exact h a q hn
theorem yML_m {D' : Nat → Nat → Prop} (h : yML b n ia D i N L T t P l ln sa) (hD : ∀ g k, D' g k → D g k) : yML b n ia D' i N L T t P l ln sa := by
  obtain ⟨h1, h2, h3, h4, h5, h6, h7, h8, h9, h10, h11, h12, h13, h14⟩ := h
  exact ⟨h1, h2, h3, h4, h5, h6, h7, h8, h9, h10, h11, fun g k q => h12 g k (hD g k q), h13, h14⟩
theorem N_tok (h : yML b n ia D i N L T t P l ln sa) (hK : ∀ ja, yML b n ia D (zTn b n i) N L T t P l ln ja → K none (ja, la, zRA pl dr cp cw rp)) : zWM (d + 8) 133 [.ref 127] (sa, la, zRA pl dr cp cw rp) K := by
  obtain ⟨h1, h2, h3, ⟨u, h4, h4'⟩, h5, h6, h7, h8, h9, h10, h11, h12, h13, h14⟩ := h
  refine S_tokR h1 (fun ja g1 g2 => hK ja ⟨g2, by rw [g1 127 26 (by omega)]; exact h2, by rw [g1 127 27 (by omega)]; exact h3, ⟨u, by rw [g1 127 19 (by omega)]; exact h4, h4'⟩, by rw [g1 127 20 (by omega)]; exact h5, by rw [g1 127 30 (by omega)]; exact h6, by rw [g1 127 31 (by omega)]; exact h7, by rw [g1 129 7 (by omega)]; exact h8, by rw [g1 129 8 (by omega)]; exact h9, by rw [g1 129 9 (by omega)]; exact h10, by rw [g1 129 13 (by omega)]; exact h11, fun g k q => ⟨(h12 g k q).1, ?_⟩, fun j hj => by rw [g1 143 _ (by omega), g1 144 _ (by omega)]; exact h13 j hj, fun a q hn => ?_⟩)
  · have := (ymc_o (h12 g k q).1).1
    rw [g1 _ _ (by omega)]; exact (h12 g k q).2
  · rw [g1 a q (fun z => hn (Or.inl ⟨z.1, by omega, by omega, by omega, by omega, by omega⟩))]; exact h14 a q hn
theorem N_go (h : yML b n ia D i N L T t P l ln sa) (hK : ∀ ja, yML b n ia D (zTn b n i) N L T t P l ln ja → K none (ja, la, zRA pl dr cp cw rp)) : zWM (d + 9) 140 [.ref 127] (sa, la, zRA pl dr cp cw rp) K := by
  rw [e140, b140_0, if_neg (fun y => y h.2.1)]
  exact N_tok h (fun ja hj => by rw [kN, b140_11]; exact hK ja hj)
theorem N_wr {v : Nat} {u : Int32} (h : yML b n ia D i N L T t P l ln sa) (hu : u = nI v) (h0 : v ≠ 0) (h9 : v < 10) (hK : ∀ ja, yMe ia (v, zTp b n i) ja → K none (ja, la, zRA pl dr cp cw rp)) : zWM d 137 [.ref 127, .int u] (sa, la, zRA pl dr cp cw rp) K := by
  rw [e137, b137_0, if_pos h.2.1, hu]
  refine hK _ ⟨by rw [zu_k (by decide), zu_eq], by rw [zu_eq, zu_k (by decide)]; exact h.1.2.2.1, ⟨h0, h9⟩, yFm_u (yFm_u h.2.2.2.2.2.2.2.2.2.2.2.2.2 (Or.inl ⟨rfl, by decide, by decide, by decide, by decide, by decide⟩)) (Or.inl ⟨rfl, by decide, by decide, by decide, by decide, by decide⟩)⟩
theorem yML_k (h : yML b n ia D i N L T t P l ln sa) : zkN b n i < 40 ∧ zTv b n i < 2 ^ 30 ∧ zTn b n i ≤ n := by
  obtain ⟨_, t2, _, t4, _, t6, _⟩ := yt_f (yTo_b h.1) h.1.1
  exact ⟨t4, t6, t2⟩
theorem N_num {lo hi : Nat} {u v : Int32} (h : yML b n ia D i N L T t P l ln sa) (hu : u = nI lo) (hv : v = nI hi) (hlo : lo < 100000) (hhi : hi < 100000) (h0 : ycN b n lo hi i = 0 → ∀ ja, yML b n ia D (zTn b n i) N L T t P l ln ja → K (some (.int (nI (zTv b n i)))) (ja, la, zRA pl dr cp cw rp)) (h1 : ¬ ycN b n lo hi i = 0 → ∀ x ja, yMe ia (ycN b n lo hi i, zTp b n i) ja → K (some (.int x)) (ja, la, zRA pl dr cp cw rp)) : zWM (d + 9) 141 [.ref 127, .int u, .int v] (sa, la, zRA pl dr cp cw rp) K := by
  obtain ⟨k4, kv, _⟩ := yML_k h
  have uc : ycN b n lo hi i = if zkN b n i = 2 then (if zTv b n i < lo ∨ hi < zTv b n i then 2 else 0) else 1 := rfl
  have bad : zkN b n i = 2 → (zTv b n i < lo ∨ hi < zTv b n i) → zWM (d + 8) 137 [.ref 127, .int 2] (sa, la, zRA pl dr cp cw rp) (zK (d + 9) 141 46 [some (.ref 127), some (.int (nI lo)), some (.int (nI hi)), none] [] K) := by
    intro c c2
    rw [uc, if_pos c, if_pos c2] at h1
    refine N_wr h rfl (by decide) (by decide) (fun ja hj => ?_)
    rw [kN, b141_46, if_neg (yMe_n hj)]
    exact h1 (by decide) _ _ hj
  rw [e141, b141_0, if_pos h.2.1, hu, hv]
  by_cases c : zkN b n i = 2
  · obtain ⟨v1, v2⟩ : sa 127 24 = 2 ∧ ((zTv b n i ≤ 99999 ∧ sa 127 25 = nI (zTv b n i)) ∨ (99999 < zTv b n i ∧ 99999 < sa 127 25)) := by
      rcases h.1.2.2.2 with ⟨q, s⟩ | ⟨q, s⟩ | ⟨q, s, v⟩ | ⟨q, s, _⟩ | ⟨q, q', s, v⟩ | ⟨q, q', s, v⟩
      · omega
      · omega
      · exact ⟨s, v⟩
      · omega
      · omega
      · omega
    rw [if_pos v1]
    rcases v2 with ⟨v3, v4⟩ | ⟨v3, v4⟩
    · rw [v4]
      by_cases c1 : zTv b n i < lo
      · rw [if_pos (nI_lt c1 (by omega))]; exact bad c (Or.inl c1)
      rw [if_neg (nI_nlt (by omega) (by omega))]
      by_cases c2 : hi < zTv b n i
      · rw [if_neg (nI_ge c2 (by omega))]; exact bad c (Or.inr c2)
      rw [if_pos (nI_le (by omega) (by omega)), b141_46, if_pos h.2.1, v4]
      rw [uc, if_pos c, if_neg (by omega)] at h0
      refine N_tok (d := d) h (fun ja hj => ?_)
      rw [kN, b141_64]
      exact h0 rfl _ hj
    · have g1 : ¬ sa 127 25 < nI lo := fun z => absurd (Int32.lt_trans v4 z) (nI_nlt (a := 99999) (b := lo) (by omega) (by omega))
      have g2 : ¬ sa 127 25 ≤ nI hi := fun z => absurd (Int32.lt_of_lt_of_le v4 (Int32.le_trans z (nI_le (b := 99999) (by omega) (by omega)))) (by decide)
      rw [if_neg g1, if_neg g2]; exact bad c (Or.inr (by omega))
  · have n2 : ¬ sa 127 24 = 2 := by
      rcases h.1.2.2.2 with ⟨q, s⟩ | ⟨q, s⟩ | ⟨q, s, v⟩ | ⟨q, s, _⟩ | ⟨q, q', s, v⟩ | ⟨q, q', s, v⟩
      · rw [s]; decide
      · rw [s]; decide
      · omega
      · rw [s]; decide
      · rw [s]; decide
      · rw [s]; decide
    rw [if_neg n2]
    rw [uc, if_neg c] at h1
    refine N_wr h rfl (by decide) (by decide) (fun ja hj => ?_)
    rw [kN, b141_22, b141_46, if_neg (yMe_n hj)]
    exact h1 (by decide) _ _ hj
theorem Fe_num {u v : Int32} (hf : ¬ sa 127 26 = 0) : zWM (d + 1) 141 [.ref 127, .int u, .int v] (sa, la, zRA pl dr cp cw rp) K = K (some (.int u)) (sa, la, zRA pl dr cp cw rp) := by
  rw [e141, b141_0, if_neg hf]
theorem Fe_man (hf : ¬ sa 127 26 = 0) : zWM (d + 1) 146 [.ref 127] (sa, la, zRA pl dr cp cw rp) K = K (some (.int 0)) (sa, la, zRA pl dr cp cw rp) := by
  rw [e146, b146_0, if_neg hf]
theorem Fe_ahd (hf : ¬ sa 127 26 = 0) : zWM (d + 2) 147 [.ref 127] (sa, la, zRA pl dr cp cw rp) K = K (some (.int 0)) (sa, la, zRA pl dr cp cw rp) := by
  rw [e147, b147_0, Fe_man hf, kS, b147_4, F_go hf, kN, b147_9]
theorem S_frs {j : Nat} {u : Int32} (hu : u = nI j) (hj : j < 7) : zWM d 144 [.ref 127, .int u] (sa, la, zRA pl dr cp cw rp) K = K (some (.int (sa 129 (7 + j)))) (sa, la, zRA pl dr cp cw rp) := by
  rw [e144, b144_0, hu, show (7 : Int32) = nI 7 from rfl, nI_add, zg (by omega) (by omega), zcln (by omega)]
theorem S_rds {j : Nat} {u v : Int32} (hu : u = nI j) (hj : j < 7) : zWM d 145 [.ref 127, .int u, .int v] (sa, la, zRA pl dr cp cw rp) K = K none (zu sa 129 (7 + j) v, la, zRA pl dr cp cw rp) := by
  rw [e145, b145_0, hu, show (7 : Int32) = nI 7 from rfl, nI_add, zg (by omega) (by omega), zcln (by omega)]
theorem yTo_nm {sa : Nat → Nat → Int32} (h : yTo b n i sa) : (zkN b n i = 3 → sa 127 24 = 1 ∧ sa 127 25 = nI (zTv b n i)) ∧ (¬ zkN b n i = 3 → ¬ sa 127 24 = 1) := by
  rcases h.2.2.2 with ⟨q, s⟩ | ⟨q, s⟩ | ⟨q, s, v⟩ | ⟨q, s, v⟩ | ⟨q, q', s, v⟩ | ⟨q, q', s, v⟩
  · exact ⟨fun z => by omega, fun _ => by rw [s]; decide⟩
  · exact ⟨fun z => by omega, fun _ => by rw [s]; decide⟩
  · exact ⟨fun z => by omega, fun _ => by rw [s]; decide⟩
  · exact ⟨fun _ => ⟨s, v⟩, fun z => absurd q z⟩
  · exact ⟨fun z => by omega, fun _ => by rw [s]; decide⟩
  · exact ⟨fun z => by omega, fun _ => by rw [s]; decide⟩
theorem N_fnd (h : yML b n ia D i N L T t P l ln sa) (hn : yNm D N P) (hk : zkN b n i = 3) : zWM d 142 [.ref 130, .int 6, .int (nI N), .int (sa 127 25)] (sa, la, zRA pl dr cp cw rp) K = K (some (.int (if yfi P (zTv b n i) N 0 = 6 then -1 else nI (yfi P (zTv b n i) N 0)))) (sa, la, zRA pl dr cp cw rp) := by
  obtain ⟨_, kv, _⟩ := yML_k h
  have h6 := hn.1
  rw [show (6 : Int32) = nI 6 from rfl, S_found (a := 130) (b := 6) (n := N) rfl (show 6 + N ≤ 12 by omega) (by decide), ((yTo_nm h.1).1 hk).2, yfi_z kv N 0 (by omega) (fun j _ hj => ⟨?_, (hn.2 j (by omega)).2⟩)]
  have := (h.2.2.2.2.2.2.2.2.2.2.2.1 1 j (hn.2 j (by omega)).1).2
  exact this
theorem N_frsh (h : yML b n ia D i N L T t P l ln sa) (hn : yNm D N P) (h0 : ycW b n P N i = 0 → ∀ ja, yML b n ia D (zTn b n i) N L T t P l ln ja → K (some (.int (nI (zTv b n i)))) (ja, la, zRA pl dr cp cw rp)) (h1 : ¬ ycW b n P N i = 0 → ∀ x ja, yMe ia (ycW b n P N i, zTp b n i) ja → K (some (.int x)) (ja, la, zRA pl dr cp cw rp)) : zWM (d + 9) 143 [.ref 127, .ref 130, .int 6, .int (nI N)] (sa, la, zRA pl dr cp cw rp) K := by
  have uc : ycW b n P N i = if zkN b n i = 3 then (if yfi P (zTv b n i) N 0 = 6 then 0 else 3) else 1 := rfl
  have h6 := hn.1
  rw [e143, b143_0, if_pos h.2.1]
  by_cases c : zkN b n i = 3
  · obtain ⟨v1, v2⟩ := (yTo_nm h.1).1 c
    rw [if_pos v1, N_fnd h hn c, kS, b143_35]
    by_cases c2 : yfi P (zTv b n i) N 0 = 6
    · rw [uc, if_pos c, if_pos c2] at h0
      rw [if_pos c2, if_pos rfl, b143_44, if_pos h.2.1, v2]
      refine N_tok (d := d) h (fun ja hj => ?_)
      rw [kN, b143_63]
      exact h0 rfl _ hj
    · rw [uc, if_pos c, if_neg c2] at h1
      have hb := yfi_b (P := P) (v := zTv b n i) N 0 (by omega)
      rw [if_neg c2, if_neg (fun z => nI_pos (n := yfi P (zTv b n i) N 0) (by omega) (by rw [z]; decide))]
      refine N_wr h rfl (by decide) (by decide) (fun ja hj => ?_)
      rw [kN, b143_44, if_neg (yMe_n hj)]
      exact h1 (by decide) _ _ hj
  · rw [if_neg ((yTo_nm h.1).2 c)]
    rw [uc, if_neg c] at h1
    refine N_wr h rfl (by decide) (by decide) (fun ja hj => ?_)
    rw [kN, b143_22, b143_44, if_neg (yMe_n hj)]
    exact h1 (by decide) _ _ hj
/-- the man at hand: the token stays -/
theorem N_man (h : yML b n ia D i N L T t P l ln sa) (hn : yNm D N P) (h0 : ycO b n P N 9 i = 0 → K (some (.int (nI (yfi P (zTv b n i) N 0)))) (sa, la, zRA pl dr cp cw rp)) (h1 : ¬ ycO b n P N 9 i = 0 → ∀ x ja, yMe ia (ycO b n P N 9 i, zTp b n i) ja → K (some (.int x)) (ja, la, zRA pl dr cp cw rp)) : zWM (d + 2) 146 [.ref 127] (sa, la, zRA pl dr cp cw rp) K := by
  have uc : ycO b n P N 9 i = if zkN b n i = 3 then (if yfi P (zTv b n i) N 0 = 6 then 4 else if yfi P (zTv b n i) N 0 = 9 then 5 else 0) else 1 := rfl
  have h6 := hn.1
  have hb := yfi_b (P := P) (v := zTv b n i) N 0 (by omega)
  rw [e146, b146_0, if_pos h.2.1]
  by_cases c : zkN b n i = 3
  · obtain ⟨v1, v2⟩ := (yTo_nm h.1).1 c
    rw [if_pos v1, b146_22, if_neg (fun y => y h.2.1), S_frs (j := 0) (u := 0) rfl (by decide), kS, b146_40, h.2.2.2.2.2.2.2.1, N_fnd h hn c, kS, b146_47, b146_51, if_neg (fun y => y h.2.1)]
    by_cases c2 : yfi P (zTv b n i) N 0 = 6
    · rw [uc, if_pos c, if_pos c2] at h1
      rw [if_pos c2, if_neg (fun y => y rfl)]
      refine N_wr h rfl (by decide) (by decide) (fun ja hj => ?_)
      rw [kN, b146_69, if_neg (yMe_n hj)]
      exact h1 (by decide) _ _ hj
    · rw [uc, if_pos c, if_neg c2, if_neg (by omega)] at h0
      rw [if_neg c2, if_pos (fun z => nI_pos (n := yfi P (zTv b n i) N 0) (by omega) (by rw [z]; decide)), if_pos h.2.1]
      exact h0 rfl
  · rw [if_neg ((yTo_nm h.1).2 c)]
    rw [uc, if_neg c] at h1
    refine N_wr h rfl (by decide) (by decide) (fun ja hj => ?_)
    rw [kN, b146_22, if_pos (yMe_n hj), b146_51, if_pos (yMe_n hj), if_neg (yMe_n hj)]
    exact h1 (by decide) _ _ hj
theorem N_ahd (h : yML b n ia D i N L T t P l ln sa) (hn : yNm D N P) (h0 : ycO b n P N 9 i = 0 → ∀ ja, yML b n ia D (zTn b n i) N L T t P l ln ja → K (some (.int (nI (yfi P (zTv b n i) N 0)))) (ja, la, zRA pl dr cp cw rp)) (h1 : ¬ ycO b n P N 9 i = 0 → ∀ x ja, yMe ia (ycO b n P N 9 i, zTp b n i) ja → K (some (.int x)) (ja, la, zRA pl dr cp cw rp)) : zWM (d + 10) 147 [.ref 127] (sa, la, zRA pl dr cp cw rp) K := by
  rw [e147, b147_0]
  refine N_man (d := d + 7) h hn (fun c => ?_) (fun c x ja hj => ?_)
  · rw [kS, b147_4]
    refine N_go h (fun ja hj => ?_)
    rw [kN, b147_9]
    exact h0 c _ hj
  · rw [kS, b147_4, F_go (yMe_n hj), kN, b147_9]
    exact h1 c _ _ hj
/-- a place of the draft is written -/
theorem N_w {g k v c q : Nat} (h : yML b n ia D i N L T t P l ln sa) (hg : yDok g k) (hc : c = ymc1 g k) (hq : q = ymc2 g k) : yML b n ia (fun a q => D a q ∨ (a = g ∧ q = k)) i N L T t (zu P g k v) l ln (zu sa c q (nI v)) := by
  obtain ⟨o1, o2, o3, o4⟩ := ymc_o hg
  rw [← hc] at o1 o2 o3 o4
  rw [← hq] at o3 o4
  obtain ⟨h1, h2, h3, ⟨u, h4, h4'⟩, h5, h6, h7, h8, h9, h10, h11, h12, h13, h14⟩ := h
  have e1 : ∀ a, a < 129 → zu sa c q (nI v) a = sa a := fun a ha => zu_o (by omega)
  have e2 : ∀ a, a < 10 ∨ 12 < a → zu sa c q (nI v) 129 a = sa 129 a := fun a ha => by rw [zu_at, if_neg (fun z => by have := o3 z.1.symm; omega)]
  refine ⟨yTo_e h1 (fun k _ _ => by rw [e1 127 (by omega)]) (fun j _ => by rw [e1 128 (by omega)]), by rw [e1 127 (by omega)]; exact h2, by rw [e1 127 (by omega)]; exact h3, ⟨u, by rw [e1 127 (by omega)]; exact h4, h4'⟩, by rw [e1 127 (by omega)]; exact h5, by rw [e1 127 (by omega)]; exact h6, by rw [e1 127 (by omega)]; exact h7, by rw [e2 7 (by omega)]; exact h8, by rw [e2 8 (by omega)]; exact h9, by rw [e2 9 (by omega)]; exact h10, by rw [e2 13 (by omega)]; exact h11, fun a p hp => ?_, fun j hj => by rw [zu_o (by omega), zu_o (by omega)]; exact h13 j hj, yFm_u h14 o4⟩
  rw [zu_at, zu_at]
  by_cases e : a = g ∧ p = k
  · rw [if_pos ⟨by rw [e.1, e.2]; exact hc.symm, by rw [e.1, e.2]; exact hq.symm⟩, if_pos e, e.1, e.2]; exact ⟨hg, rfl⟩
  · rcases hp with hp | hp
    · rw [if_neg (fun z => e (ymc_i hg (h12 a p hp).1 (z.1.trans hc) (z.2.trans hq))), if_neg e]; exact h12 a p hp
    · exact absurd hp e
theorem Fe_w {c k : Nat} {v : Int32} (h : yMe ia e sa) (hw : 129 ≤ c ∧ c ≤ 144 ∧ yhf c ≤ k) : yMe ia e (zu sa c k v) := ⟨by rw [zu_o (by omega)]; exact h.1, by rw [zu_o (by omega)]; exact h.2.1, h.2.2.1, yFm_u h.2.2.2 (Or.inr hw)⟩
theorem N_n {k v : Nat} (h : yML b n ia D i N L T t P l ln sa) (hk : k < 3) : yML b n ia D i (if k = 0 then v else N) (if k = 1 then v else L) (if k = 2 then v else T) t P l ln (zu sa 129 (7 + k) (nI v)) := by
  obtain ⟨h1, h2, h3, ⟨u, h4, h4'⟩, h5, h6, h7, h8, h9, h10, h11, h12, h13, h14⟩ := h
  have e1 : ∀ a, a ≠ 129 → zu sa 129 (7 + k) (nI v) a = sa a := fun a ha => zu_o ha
  refine ⟨yTo_e h1 (fun k _ _ => by rw [e1 127 (by omega)]) (fun j _ => by rw [e1 128 (by omega)]), by rw [e1 127 (by omega)]; exact h2, by rw [e1 127 (by omega)]; exact h3, ⟨u, by rw [e1 127 (by omega)]; exact h4, h4'⟩, by rw [e1 127 (by omega)]; exact h5, by rw [e1 127 (by omega)]; exact h6, by rw [e1 127 (by omega)]; exact h7, ?_, ?_, ?_, by rw [zu_k (by omega)]; exact h11, fun a p hp => ⟨(h12 a p hp).1, ?_⟩, fun j hj => by rw [e1 143 (by omega), e1 144 (by omega)]; exact h13 j hj, yFm_u h14 (Or.inr ⟨by omega, by omega, by rw [show yhf 129 = 7 from rfl]; omega⟩)⟩
  · rw [zu_at]
    by_cases e : k = 0
    · rw [if_pos ⟨rfl, by omega⟩, if_pos e]
    · rw [if_neg (by omega), if_neg e]; exact h8
  · rw [zu_at]
    by_cases e : k = 1
    · rw [if_pos ⟨rfl, by omega⟩, if_pos e]
    · rw [if_neg (by omega), if_neg e]; exact h9
  · rw [zu_at]
    by_cases e : k = 2
    · rw [if_pos ⟨rfl, by omega⟩, if_pos e]
    · rw [if_neg (by omega), if_neg e]; exact h10
  · have o3 := (ymc_o (h12 a p hp).1).2.2.1
    rw [zu_at, if_neg (fun z => by have := o3 z.1; omega)]; exact (h12 a p hp).2
end ZP
