/-! the reference's small methods of a text -/
/-- what an E's parse may change in the reference -/
def yW (c k : Nat) : Prop := (c = 127 ∧ 22 ≤ k ∧ k ≤ 31 ∧ k ≠ 28 ∧ k ≠ 29) ∨ (c = 129 ∧ k = 13) ∨ ((c = 143 ∨ c = 144) ∧ 64 ≤ k)
def yFr (ia sa : Nat → Nat → Int32) : Prop := ∀ c k, ¬ yW c k → sa c k = ia c k
def yKr (l : List (Nat × Nat)) (sa : Nat → Nat → Int32) : Prop := ∀ j, j < l.length → zKE (nI (l.getD j (0, 0)).1) (nI (l.getD j (0, 0)).2) (sa 143 (64 + j)) (sa 144 (64 + j))
/-- the token from i on is read -/
def yTo (b : Nat → Nat) (n i : Nat) (sa : Nat → Nat → Int32) : Prop := i ≤ n ∧ zRr b n (zTn b n i) sa ∧ sa 127 23 = nI (zTp b n i) ∧ zTR (zkN b n i) (zTv b n i) (sa 127 24) (sa 127 25)
def yRS (b : Nat → Nat) (n : Nat) (ia : Nat → Nat → Int32) (i o c : Nat) (l : List (Nat × Nat)) (sa : Nat → Nat → Int32) : Prop := yTo b n i sa ∧ sa 127 26 = 0 ∧ sa 127 27 = -1 ∧ sa 127 30 = nI o ∧ sa 127 31 = nI c ∧ sa 129 13 = nI l.length ∧ yKr l sa ∧ yFr ia sa
def yRf (ia : Nat → Nat → Int32) (e : Nat × Nat) (sa : Nat → Nat → Int32) : Prop := sa 127 26 = nI e.1 ∧ sa 127 27 = nI e.2 ∧ yFr ia sa ∧ e.1 ≠ 0 ∧ e.1 < 10
theorem yRf_n {ia sa : Nat → Nat → Int32} {e : Nat × Nat} (h : yRf ia e sa) : ¬ sa 127 26 = 0 := by
  obtain ⟨h1, _, _, h2, h3⟩ := h
  rw [h1]
  intro z
  exact h2 ((nI_eq (b := 0) (by omega) (by omega)).mp z)
theorem yrk_i (k : Nat) : (yrk k = 1 → k = 30) ∧ (yrk k = 2 → k = 31) ∧ (yrk k = 3 → k = 32) ∧ (yrk k = 4 → 7 ≤ k ∧ k ≤ 12) ∧ (yrk k = 5 → k = 13 ∨ k = 14) ∧ (yrk k = 6 → k = 15 ∨ k = 16) ∧ yrk k ≤ 6 := by
  unfold yrk
  split
  · omega
  split
  · omega
  split
  · omega
  split
  · omega
  split
  · omega
  split <;> omega
theorem zsc_i : ∀ k, k < 17 → ∀ j, j < 17 → 4 ≤ k → 4 ≤ j → zsc k = zsc j → k = j := by decide +kernel
theorem zsc_c1 : ∀ k, k < 17 → yrk k = 4 → (zsc k = 60 ∨ zsc k = 62) ∨ (zsc k = 61 ∨ 256 ≤ zsc k) := by decide +kernel
theorem zsc_c2 : ∀ k, k < 17 → 4 ≤ k → ¬ yrk k = 4 → (¬ zsc k = 60 ∧ ¬ zsc k = 62) ∧ (¬ zsc k = 61 ∧ ¬ 256 ≤ zsc k) := by decide +kernel
theorem zsc_g : ∀ k, k < 17 → 7 ≤ k → zsgn (nI k) ∧ zsc k = zsg (nI k) := by unfold zsgn; decide +kernel
section ZP
variable {d pl dr n i o c : Nat} {cp cw rp : Option Nat} {b : Nat → Nat} {ia sa : Nat → Nat → Int32} {la : Nat → Nat → Int64} {K : Option Value → zHP → Prop} {l : List (Nat × Nat)}
theorem yTo_b (h : yTo b n i sa) : ∀ j, j < n → b j < 256 := fun j hj => (h.2.1.2.2.2.2 j hj).1
theorem yTo_e {ja : Nat → Nat → Int32} (h : yTo b n i sa) (h1 : ∀ k, 21 ≤ k → k ≤ 25 → ja 127 k = sa 127 k) (h2 : ∀ j, j < n → ja 128 j = sa 128 j) : yTo b n i ja :=
  ⟨h.1, ⟨h.2.1.1, h.2.1.2.1, by rw [h1 21 (by omega) (by omega)]; exact h.2.1.2.2.1, by rw [h1 22 (by omega) (by omega)]; exact h.2.1.2.2.2.1, fun j hj => ⟨(h.2.1.2.2.2.2 j hj).1, by rw [h2 j hj]; exact (h.2.1.2.2.2.2 j hj).2⟩⟩, by rw [h1 23 (by omega) (by omega)]; exact h.2.2.1, by rw [h1 24 (by omega) (by omega), h1 25 (by omega) (by omega)]; exact h.2.2.2⟩
theorem S_tokR (h : yTo b n i sa) (hK : ∀ ja : Nat → Nat → Int32, (∀ c k, ¬ (c = 127 ∧ 22 ≤ k ∧ k ≤ 25) → ja c k = sa c k) → yTo b n (zTn b n i) ja → K none (ja, la, zRA pl dr cp cw rp)) : zWM (d + 8) 133 [.ref 127] (sa, la, zRA pl dr cp cw rp) K := by
  have t2 := (yt_f (yTo_b h) h.1).2.1
  have t4 := (yt_f (yTo_b h) t2).2.1
  refine S_tok h.2.1 (fun ja h1 h2 h3 h4 => hK ja h1 ⟨t2, ⟨h.2.1.1, t4, ?_, h2, fun j hj => ⟨yTo_b h j hj, ?_⟩⟩, h3, h4⟩)
  · rw [h1 127 21 (by omega)]; exact h.2.1.2.2.1
  · rw [h1 128 j (by omega)]; exact (h.2.1.2.2.2.2 j hj).2
theorem S_isWd {w : Nat} {u : Int32} (h : yTo b n i sa) (hf : sa 127 26 = 0) (hw : w < 20) (hu : u = nI w) : zWM d 138 [.ref 127, .int u] (sa, la, zRA pl dr cp cw rp) K = K (some (.int (if zkN b n i = 20 + w then 1 else 0))) (sa, la, zRA pl dr cp cw rp) := by
  have t := h.2.2.2
  rw [e138, b138_0, if_neg (fun y => y hf), hu]
  rcases t with ⟨k, s⟩ | ⟨k, s⟩ | ⟨k, s, _⟩ | ⟨k, s, _⟩ | ⟨k, k', s, _⟩ | ⟨k, k', s, v⟩
  · rw [s, if_pos (by decide), if_neg (by omega)]
  · rw [s, if_pos (by decide), if_neg (by omega)]
  · rw [s, if_pos (by decide), if_neg (by omega)]
  · rw [s, if_pos (by decide), if_neg (by omega)]
  · rw [s, if_pos (by decide), if_neg (by omega)]
  · rw [s, if_neg (fun y => y rfl), v]
    by_cases e : zkN b n i = 20 + w
    · rw [if_pos e, if_neg (fun y => y (by rw [e]; congr 1; omega))]
    · rw [if_neg e, if_pos (fun y => e (by have := (nI_eq (by omega) (by omega)).mp y; omega))]
theorem S_isSg {k : Nat} {u : Int32} (h : yTo b n i sa) (hf : sa 127 26 = 0) (hk : 4 ≤ k) (hk2 : k < 17) (hu : u = zsc k) : zWM d 139 [.ref 127, .int u] (sa, la, zRA pl dr cp cw rp) K = K (some (.int (if zkN b n i = k then 1 else 0))) (sa, la, zRA pl dr cp cw rp) := by
  have t := h.2.2.2
  rw [e139, b139_0, if_neg (fun y => y hf), hu]
  rcases t with ⟨q, s⟩ | ⟨q, s⟩ | ⟨q, s, _⟩ | ⟨q, s, _⟩ | ⟨q, q', s, v⟩ | ⟨q, q', s, v⟩
  · rw [s, if_pos (by decide), if_neg (by omega)]
  · rw [s, if_pos (by decide), if_neg (by omega)]
  · rw [s, if_pos (by decide), if_neg (by omega)]
  · rw [s, if_pos (by decide), if_neg (by omega)]
  · rw [s, if_neg (fun y => y rfl), v]
    by_cases e : zkN b n i = k
    · rw [if_pos e, if_neg (fun y => y (by rw [e]))]
    · rw [if_neg e, if_pos (fun y => e (zsc_i _ (by omega) _ hk2 q hk y))]
  · rw [s, if_pos (by decide), if_neg (by omega)]
theorem F_wd {u : Int32} (hf : ¬ sa 127 26 = 0) : zWM d 138 [.ref 127, .int u] (sa, la, zRA pl dr cp cw rp) K = K (some (.int 0)) (sa, la, zRA pl dr cp cw rp) := by
  rw [e138, b138_0, if_pos hf]
theorem F_sg {u : Int32} (hf : ¬ sa 127 26 = 0) : zWM d 139 [.ref 127, .int u] (sa, la, zRA pl dr cp cw rp) K = K (some (.int 0)) (sa, la, zRA pl dr cp cw rp) := by
  rw [e139, b139_0, if_pos hf]
theorem F_go (hf : ¬ sa 127 26 = 0) : zWM (d + 1) 140 [.ref 127] (sa, la, zRA pl dr cp cw rp) K = K none (sa, la, zRA pl dr cp cw rp) := by
  rw [e140, b140_0, if_pos hf]
theorem F_wr {u : Int32} (hf : ¬ sa 127 26 = 0) : zWM d 137 [.ref 127, .int u] (sa, la, zRA pl dr cp cw rp) K = K none (sa, la, zRA pl dr cp cw rp) := by
  rw [e137, b137_0, if_neg hf]
theorem F_kn (hf : ¬ sa 127 26 = 0) : zWM (d + 1) 153 [.ref 127] (sa, la, zRA pl dr cp cw rp) K = K none (sa, la, zRA pl dr cp cw rp) := by
  rw [e153, b153_0, if_neg hf]
theorem F_pu {s u : Int32} (hf : ¬ sa 127 26 = 0) : zWM (d + 1) 152 [.ref 127, .int s, .int u] (sa, la, zRA pl dr cp cw rp) K = K none (sa, la, zRA pl dr cp cw rp) := by
  rw [e152, b152_0, if_neg hf]
theorem F_P (hf : ¬ sa 127 26 = 0) : zWM (d + 1) 159 [.ref 127] (sa, la, zRA pl dr cp cw rp) K = K none (sa, la, zRA pl dr cp cw rp) := by
  rw [e159, b159_0, if_neg hf]
theorem F_T4 {a1 : Option Value} (hf : ¬ sa 127 26 = 0) : zWP (d + 1) 158 4 [some (.ref 127), a1] [] (sa, la, zRA pl dr cp cw rp) K = K none (sa, la, zRA pl dr cp cw rp) := by
  rw [b158_4, F_sg hf, kS, b158_10, if_neg (fun y => y rfl), F_sg hf, kS, b158_19, if_pos rfl]
theorem F_T (hf : ¬ sa 127 26 = 0) : zWM (d + 2) 158 [.ref 127] (sa, la, zRA pl dr cp cw rp) K = K none (sa, la, zRA pl dr cp cw rp) := by
  rw [e158, b158_0, F_P hf, kN, F_T4 hf]
theorem F_S4 {a1 : Option Value} (hf : ¬ sa 127 26 = 0) : zWP (d + 1) 157 4 [some (.ref 127), a1] [] (sa, la, zRA pl dr cp cw rp) K = K none (sa, la, zRA pl dr cp cw rp) := by
  rw [b157_4, F_sg hf, kS, b157_10, if_neg (fun y => y rfl), F_sg hf, kS, b157_19, if_pos rfl]
theorem F_S (hf : ¬ sa 127 26 = 0) : zWM (d + 3) 157 [.ref 127] (sa, la, zRA pl dr cp cw rp) K = K none (sa, la, zRA pl dr cp cw rp) := by
  rw [e157, b157_0, F_T hf, kN, F_S4 hf]
theorem F_B (hf : ¬ sa 127 26 = 0) : zWM (d + 4) 156 [.ref 127] (sa, la, zRA pl dr cp cw rp) K = K none (sa, la, zRA pl dr cp cw rp) := by
  rw [e156, b156_0, F_wd hf, kS, b156_6, if_pos rfl, F_S hf, kN, b156_34, if_pos hf]
theorem F_A4 (hf : ¬ sa 127 26 = 0) : zWP (d + 1) 155 4 [some (.ref 127)] [] (sa, la, zRA pl dr cp cw rp) K = K none (sa, la, zRA pl dr cp cw rp) := by
  rw [b155_4, F_wd hf, kS, b155_10, if_pos rfl]
theorem F_A (hf : ¬ sa 127 26 = 0) : zWM (d + 5) 155 [.ref 127] (sa, la, zRA pl dr cp cw rp) K = K none (sa, la, zRA pl dr cp cw rp) := by
  rw [e155, b155_0, F_B hf, kN, F_A4 hf]
theorem F_E4 (hf : ¬ sa 127 26 = 0) : zWP (d + 1) 154 4 [some (.ref 127)] [] (sa, la, zRA pl dr cp cw rp) K = K none (sa, la, zRA pl dr cp cw rp) := by
  rw [b154_4, F_wd hf, kS, b154_10, if_pos rfl]
theorem F_E (hf : ¬ sa 127 26 = 0) : zWM (d + 6) 154 [.ref 127] (sa, la, zRA pl dr cp cw rp) K = K none (sa, la, zRA pl dr cp cw rp) := by
  rw [e154, b154_0, F_A hf, kN, F_E4 hf]
theorem F_P6 {i1 : Int32} (hf : ¬ sa 127 26 = 0) : zWP (d + 2) 159 166 [some (.ref 127), some (.int i1)] [] (sa, la, zRA pl dr cp cw rp) K = K none (sa, la, zRA pl dr cp cw rp) := by
  rw [b159_166]
  by_cases e : i1 = 0
  · rw [if_pos e, b159_176, if_pos e, F_pu hf, kN, b159_197, F_go hf, kN, b159_201]
  · rw [if_neg e, b159_176, if_neg e, F_pu hf, kN, b159_197, F_go hf, kN, b159_201]
theorem F_P8 (hf : ¬ sa 127 26 = 0) : zWP (d + 2) 159 78 [some (.ref 127), none] [] (sa, la, zRA pl dr cp cw rp) K = K none (sa, la, zRA pl dr cp cw rp) := by
  rw [b159_78, if_neg hf]
/-! in the course of an E -/
theorem yFr_u {c k : Nat} {v : Int32} (h : yFr ia sa) (hw : yW c k) : yFr ia (zu sa c k v) := fun a q hn => by
  rw [zu_at, if_neg (fun z => hn (by rw [z.1, z.2]; exact hw))]; exact h a q hn
theorem R_tok (h : yRS b n ia i o c l sa) (hK : ∀ ja : Nat → Nat → Int32, yRS b n ia (zTn b n i) o c l ja → K none (ja, la, zRA pl dr cp cw rp)) : zWM (d + 8) 133 [.ref 127] (sa, la, zRA pl dr cp cw rp) K := by
  obtain ⟨h1, h2, h3, h4, h5, h6, h7, h8⟩ := h
  refine S_tokR h1 (fun ja g1 g2 => hK ja ⟨g2, by rw [g1 127 26 (by omega)]; exact h2, by rw [g1 127 27 (by omega)]; exact h3, by rw [g1 127 30 (by omega)]; exact h4, by rw [g1 127 31 (by omega)]; exact h5, by rw [g1 129 13 (by omega)]; exact h6, fun j hj => by rw [g1 143 _ (by omega), g1 144 _ (by omega)]; exact h7 j hj, fun a q hn => ?_⟩)
  rw [g1 a q (fun z => hn (Or.inl ⟨z.1, by omega, by omega, by omega, by omega⟩))]
  exact h8 a q hn
theorem R_go (h : yRS b n ia i o c l sa) (hK : ∀ ja : Nat → Nat → Int32, yRS b n ia (zTn b n i) o c l ja → K none (ja, la, zRA pl dr cp cw rp)) : zWM (d + 9) 140 [.ref 127] (sa, la, zRA pl dr cp cw rp) K := by
  rw [e140, b140_0, if_neg (fun y => y h.2.1)]
  exact R_tok h (fun ja hj => by rw [kN, b140_11]; exact hK ja hj)
theorem R_wr {v : Nat} {u : Int32} (h : yRS b n ia i o c l sa) (hu : u = nI v) (h0 : v ≠ 0) (h9 : v < 10) (hK : ∀ ja : Nat → Nat → Int32, yRf ia (v, zTp b n i) ja → K none (ja, la, zRA pl dr cp cw rp)) : zWM d 137 [.ref 127, .int u] (sa, la, zRA pl dr cp cw rp) K := by
  obtain ⟨h1, h2, h3, h4, h5, h6, h7, h8⟩ := h
  rw [e137, b137_0, if_pos h2, hu]
  refine hK _ ⟨by rw [zu_k (by decide), zu_eq], by rw [zu_eq, zu_k (by decide)]; exact h1.2.2.1, yFr_u (yFr_u h8 (Or.inl ⟨rfl, by decide, by decide, by decide, by decide⟩)) (Or.inl ⟨rfl, by decide, by decide, by decide, by decide⟩), h0, h9⟩
theorem R_k6 (h : yRS b n ia i o c l sa) (h6 : c = 64) (hK : ∀ ja : Nat → Nat → Int32, yRf ia (2, zTp b n i) ja → K none (ja, la, zRA pl dr cp cw rp)) : zWM (d + 1) 153 [.ref 127] (sa, la, zRA pl dr cp cw rp) K := by
  rw [e153, b153_0, if_pos h.2.1, h.2.2.2.2.1, h6, if_neg (show ¬ ¬ nI 64 = 64 from fun y => y rfl)]
  exact R_wr h rfl (by decide) (by decide) (fun ja hj => by rw [kN, b153_22]; exact hK ja hj)
theorem R_kn (h : yRS b n ia i o c l sa) (h6 : c < 64) (hK : ∀ ja : Nat → Nat → Int32, yRS b n ia i o (c + 1) l ja → K none (ja, la, zRA pl dr cp cw rp)) : zWM (d + 1) 153 [.ref 127] (sa, la, zRA pl dr cp cw rp) K := by
  obtain ⟨h1, h2, h3, h4, h5, h7, h8, h9⟩ := h
  rw [e153, b153_0, if_pos h2, h5, if_pos (show ¬ nI c = 64 from fun z => by have := (nI_eq (b := 64) (by omega) (by omega)).mp z; omega), ns]
  refine hK _ ⟨yTo_e h1 (fun k q1 q2 => zu_k (by omega)) (fun j _ => by rw [zu_o (by decide)]), by rw [zu_k (by decide)]; exact h2, by rw [zu_k (by decide)]; exact h3, by rw [zu_k (by decide)]; exact h4, zu_eq _ _ _ _, by rw [zu_o (by decide)]; exact h7, fun j hj => by rw [zu_o (by decide), zu_o (by decide)]; exact h8 j hj, yFr_u h9 (Or.inl ⟨rfl, by decide, by decide, by decide, by decide⟩)⟩
theorem ygetD_l {l : List (Nat × Nat)} {a : Nat × Nat} {j : Nat} (h : j < l.length) : (l ++ [a]).getD j (0, 0) = l.getD j (0, 0) := by
  rw [List.getD_eq_getElem?_getD, List.getD_eq_getElem?_getD, List.getElem?_append_left h]
theorem ygetD_r {l : List (Nat × Nat)} {a : Nat × Nat} : (l ++ [a]).getD l.length (0, 0) = a := by
  rw [List.getD_eq_getElem?_getD, List.getElem?_append_right (Nat.le_refl _), Nat.sub_self]
  rfl
theorem R_pu {k v : Nat} {s u : Int32} (h : yRS b n ia i o c l sa) (hl : l.length < 64) (hk : zKE (nI k) (nI v) s u) (hK : ∀ ja : Nat → Nat → Int32, yRS b n ia i o c (l ++ [(k, v)]) ja → K none (ja, la, zRA pl dr cp cw rp)) : zWM (d + 1) 152 [.ref 127, .int s, .int u] (sa, la, zRA pl dr cp cw rp) K := by
  obtain ⟨h1, h2, h3, h4, h5, h7, h8, h9⟩ := h
  have e : ∀ (ja : Nat → Nat → Int32) (K' : Option Value → zHP → Prop), ja 129 13 = nI l.length → zWM d 144 [.ref 127, .int 6] (ja, la, zRA pl dr cp cw rp) K' = K' (some (.int (nI l.length))) (ja, la, zRA pl dr cp cw rp) := by
    intro ja K' hj
    rw [e144, b144_0, show (7 : Int32) + 6 = nI 13 from rfl, zg (by omega) (by omega), zcln (by omega), hj]
  rw [e152, b152_0, if_pos h2, e _ _ h7, kS, b152_20, show (64 : Int32) = nI 64 from rfl, nI_add, zg (by omega) (by omega), zcln (by omega), e _ _ (by rw [zu_o (by decide)]; exact h7), kS, b152_35, nI_add, zg (by omega) (by omega), zcln (by omega), e _ _ (by rw [zu_o (by decide), zu_o (by decide)]; exact h7), kS, b152_47, ns, e145, b145_0, show (7 : Int32) + 6 = nI 13 from rfl, zg (by omega) (by omega), zcln (by omega), kN, b152_52]
  have o2 : ∀ (a q : Nat), a ≠ 129 → a ≠ 143 → a ≠ 144 → zu (zu (zu sa 143 (64 + l.length) s) 144 (64 + l.length) u) 129 13 (nI (l.length + 1)) a q = sa a q := fun a q g1 g2 g3 => by rw [zu_o g1, zu_o g3, zu_o g2]
  refine hK _ ⟨yTo_e h1 (fun k q1 q2 => o2 _ _ (by decide) (by decide) (by decide)) (fun j _ => o2 _ _ (by decide) (by decide) (by decide)), by rw [o2 _ _ (by decide) (by decide) (by decide)]; exact h2, by rw [o2 _ _ (by decide) (by decide) (by decide)]; exact h3, by rw [o2 _ _ (by decide) (by decide) (by decide)]; exact h4, by rw [o2 _ _ (by decide) (by decide) (by decide)]; exact h5, ?_, fun j hj => ?_, yFr_u (yFr_u (yFr_u h9 (Or.inr (Or.inr ⟨Or.inl rfl, by omega⟩))) (Or.inr (Or.inr ⟨Or.inr rfl, by omega⟩))) (Or.inr (Or.inl ⟨rfl, rfl⟩))⟩
  · rw [zu_eq, List.length_append]; rfl
  · rw [List.length_append] at hj
    have hj : j < l.length + 1 := hj
    have f1 : zu (zu (zu sa 143 (64 + l.length) s) 144 (64 + l.length) u) 129 13 (nI (l.length + 1)) 143 = zu sa 143 (64 + l.length) s 143 := by rw [zu_o (by decide), zu_o (by decide)]
    have f2 : zu (zu (zu sa 143 (64 + l.length) s) 144 (64 + l.length) u) 129 13 (nI (l.length + 1)) 144 = zu (zu sa 143 (64 + l.length) s) 144 (64 + l.length) u 144 := by rw [zu_o (by decide)]
    rw [f1, f2]
    by_cases e : j = l.length
    · rw [e, ygetD_r, zu_eq, zu_eq]; exact hk
    · rw [ygetD_l (by omega), zu_k (by omega), zu_k (by omega), zu_o (show (144 : Nat) ≠ 143 by decide)]; exact h8 j (by omega)
end ZP
