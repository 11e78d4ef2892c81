/-! what a slot has; copies -/
/-- the slot s has the world W and the number r -/
def zHas (N s : Nat) (W : Nat → Nat → Int32) (r : Int32) (ia : Nat → Nat → Int32) : Prop :=
  ia 147 s = W 0 0 ∧ ia 148 s = r ∧ ia 149 s = W 0 14 ∧ ia 150 s = zbt (W 7) ∧ ia 151 s = zbt (W 8) ∧
  (∀ i, i < 18 → ia 152 (18 * s + i) = if i < 3 * N then W 2 i else 0) ∧
  (∀ i, i < 6 → ia 153 (6 * s + i) = zet (W 3 i) ∧ ia 154 (6 * s + i) = W 4 i ∧ ia 155 (6 * s + i) = W 5 i ∧ ia 156 (6 * s + i) = W 1 i) ∧
  (∀ i, i < 12 → ia 157 (12 * s + i) = W 6 i) ∧
  (∀ i, i < 36 → ia 158 (36 * s + i) = if W 6 (i / 3) = 0 then -2 else W 9 i)
def zIn (t c k : Nat) : Prop := (147 ≤ c ∧ c ≤ 151 ∧ k = t) ∨ (c = 152 ∧ 18 * t ≤ k ∧ k < 18 * t + 18) ∨ (153 ≤ c ∧ c ≤ 156 ∧ 6 * t ≤ k ∧ k < 6 * t + 6) ∨ (c = 157 ∧ 12 * t ≤ k ∧ k < 12 * t + 12) ∨ (c = 158 ∧ 36 * t ≤ k ∧ k < 36 * t + 36)
theorem zrS_id {s : Nat} {v : Int32} {g : Nat → Int32} (h : g s = v) : zrS s v g = g := by
  funext i
  unfold zrS
  by_cases e : i = s
  · rw [if_pos e, e, h]
  · rw [if_neg e]
theorem zrB_id {b n : Nat} {f g : Nat → Int32} (h : ∀ i, i < n → g (b + i) = f i) : zrB b n f g = g := by
  funext i
  unfold zrB
  by_cases e : b ≤ i ∧ i < b + n
  · rw [if_pos e, ← h (i - b) (by omega)]
    congr 1
    omega
  · rw [if_neg e]
theorem zrB_n {b n i : Nat} {f g : Nat → Int32} (h : ¬ (b ≤ i ∧ i < b + n)) : zrB b n f g i = g i := if_neg h
section ZP
variable {d pl dr N L T D s : Nat} {cp cw rp : Option Nat} {p ia ja G W V : Nat → Nat → Int32} {o : Nat → Int32} {r q bn : Int32} {la : Nat → Nat → Int64} {K : Option Value → zHP → Prop}
theorem zHas_eq (h : zHas N s W r ia) : zPM N s W r ia = ia := by
  obtain ⟨h7, h8, h9, h0, h1, h2, h3, h57, h58⟩ := h
  funext c
  by_cases e : c < 147 ∨ 158 < c
  · exact zPM_o e
  · refine zPM_12 (P := fun c => zPM N s W r ia c = ia c) ?_ ?_ ?_ ?_ ?_ ?_ ?_ ?_ ?_ ?_ ?_ ?_ c (by omega) (by omega)
    · exact zrS_id h7
    · exact zrS_id h8
    · exact zrS_id h9
    · exact zrS_id h0
    · exact zrS_id h1
    · exact zrB_id h2
    · exact zrB_id (fun i hi => (h3 i hi).1)
    · exact zrB_id (fun i hi => (h3 i hi).2.1)
    · exact zrB_id (fun i hi => (h3 i hi).2.2.1)
    · exact zrB_id (fun i hi => (h3 i hi).2.2.2)
    · exact zrB_id h57
    · exact zrB_id h58
theorem zHas_M : zHas N s W r (zPM N s W r ia) := by
  refine ⟨zrS_s, zrS_s, zrS_s, zrS_s, zrS_s, fun i hi => ?_, fun i hi => ⟨?_, ?_, ?_, ?_⟩, fun i hi => ?_, fun i hi => ?_⟩
  · rw [zPM_152, zrB_i hi]
  · rw [zPM_153, zrB_i hi]
  · rw [zPM_154, zrB_i hi]
  · rw [zPM_155, zrB_i hi]
  · rw [zPM_156, zrB_i hi]
  · rw [zPM_157, zrB_i hi]
  · rw [zPM_158, zrB_i hi]
theorem zPM_out {c k : Nat} (h : ¬ zIn s c k) : zPM N s W r ia c k = ia c k := by
  unfold zIn at h
  by_cases e : c < 147 ∨ 158 < c
  · rw [zPM_o e]
  · revert h
    refine zPM_12 (P := fun c => (¬ ((147 ≤ c ∧ c ≤ 151 ∧ k = s) ∨ (c = 152 ∧ 18 * s ≤ k ∧ k < 18 * s + 18) ∨ (153 ≤ c ∧ c ≤ 156 ∧ 6 * s ≤ k ∧ k < 6 * s + 6) ∨ (c = 157 ∧ 12 * s ≤ k ∧ k < 12 * s + 12) ∨ (c = 158 ∧ 36 * s ≤ k ∧ k < 36 * s + 36))) → zPM N s W r ia c k = ia c k) ?_ ?_ ?_ ?_ ?_ ?_ ?_ ?_ ?_ ?_ ?_ ?_ c (by omega) (by omega)
    · intro h; exact zrS_n (by omega)
    · intro h; exact zrS_n (by omega)
    · intro h; exact zrS_n (by omega)
    · intro h; exact zrS_n (by omega)
    · intro h; exact zrS_n (by omega)
    · intro h; rw [zPM_152]; exact zrB_n (by omega)
    · intro h; rw [zPM_153]; exact zrB_n (by omega)
    · intro h; rw [zPM_154]; exact zrB_n (by omega)
    · intro h; rw [zPM_155]; exact zrB_n (by omega)
    · intro h; rw [zPM_156]; exact zrB_n (by omega)
    · intro h; rw [zPM_157]; exact zrB_n (by omega)
    · intro h; rw [zPM_158]; exact zrB_n (by omega)
/-- only what lies in the slot matters -/
theorem zHas_in (he : ∀ c k, zIn s c k → ja c k = ia c k) (h : zHas N s W r ia) : zHas N s W r ja := by
  unfold zIn at he
  obtain ⟨h7, h8, h9, h0, h1, h2, h3, h57, h58⟩ := h
  refine ⟨?_, ?_, ?_, ?_, ?_, fun i hi => ?_, fun i hi => ⟨?_, ?_, ?_, ?_⟩, fun i hi => ?_, fun i hi => ?_⟩
  · rw [he _ _ (by omega)]; exact h7
  · rw [he _ _ (by omega)]; exact h8
  · rw [he _ _ (by omega)]; exact h9
  · rw [he _ _ (by omega)]; exact h0
  · rw [he _ _ (by omega)]; exact h1
  · rw [he _ _ (by omega)]; exact h2 i hi
  · rw [he _ _ (by omega)]; exact (h3 i hi).1
  · rw [he _ _ (by omega)]; exact (h3 i hi).2.1
  · rw [he _ _ (by omega)]; exact (h3 i hi).2.2.1
  · rw [he _ _ (by omega)]; exact (h3 i hi).2.2.2
  · rw [he _ _ (by omega)]; exact h57 i hi
  · rw [he _ _ (by omega)]; exact h58 i hi
theorem zHas_o {a M : Nat} (hs : s ≠ a) (h : zHas N s W r ia) : zHas N s W r (zPM M a V q ia) :=
  zHas_in (fun c k hc => zPM_out (by unfold zIn at hc ⊢; omega)) h
theorem zHas_sc (h : zSc ia ja) (hh : zHas N s W r ia) : zHas N s W r ja :=
  zHas_in (fun c k hc => by rw [zSc_c h (by unfold zIn at hc; omega)]) hh
/-- what a slot shows of a world -/
def zVis (N : Nat) (W V : Nat → Nat → Int32) : Prop := V 0 0 = W 0 0 ∧ V 0 14 = W 0 14 ∧ (∀ i, i < 6 → V 1 i = W 1 i ∧ V 3 i = W 3 i ∧ V 4 i = W 4 i ∧ V 5 i = W 5 i) ∧ (∀ i, i < 3 * N → V 2 i = W 2 i) ∧ (∀ i, i < 12 → V 6 i = W 6 i ∧ V 7 i = W 7 i ∧ V 8 i = W 8 i) ∧ (∀ i, i < 36 → V 9 i = W 9 i)
theorem zbm_e {f g : Nat → Int32} : ∀ n : Nat, (∀ i, i < n → f i = g i) → zbm f n = zbm g n := by
  intro n
  induction n with
  | zero => intro _; rfl
  | succ n ih =>
    intro h
    unfold zbm
    rw [h n (by omega), ih (fun i hi => h i (by omega))]
theorem zHas_v (hv : zVis N W V) (h : zHas N s W r ia) : zHas N s V r ia := by
  obtain ⟨v0, v14, v1, v2, v6, v9⟩ := hv
  obtain ⟨h7, h8, h9, h0, h1, h2, h3, h57, h58⟩ := h
  refine ⟨?_, h8, ?_, ?_, ?_, fun i hi => ?_, fun i hi => ⟨?_, ?_, ?_, ?_⟩, fun i hi => ?_, fun i hi => ?_⟩
  · rw [v0]; exact h7
  · rw [v14]; exact h9
  · rw [h0]; unfold zbt; rw [zbm_e 12 (fun i hi => ((v6 i hi).2.1).symm)]
  · rw [h1]; unfold zbt; rw [zbm_e 12 (fun i hi => ((v6 i hi).2.2).symm)]
  · rw [h2 i hi]
    by_cases e : i < 3 * N
    · rw [if_pos e, if_pos e, v2 i e]
    · rw [if_neg e, if_neg e]
  · rw [(v1 i hi).2.1]; exact (h3 i hi).1
  · rw [(v1 i hi).2.2.1]; exact (h3 i hi).2.1
  · rw [(v1 i hi).2.2.2]; exact (h3 i hi).2.2.1
  · rw [(v1 i hi).1]; exact (h3 i hi).2.2.2
  · rw [(v6 i hi).1]; exact h57 i hi
  · rw [(v6 (i / 3) (by omega)).1, v9 i hi]; exact h58 i hi
/-- on the way from ia to G: on S it is there -/
def zQ (G ia : Nat → Nat → Int32) (S : Nat → Nat → Prop) (ja : Nat → Nat → Int32) : Prop := (∀ c k, ja c k = ia c k ∨ ja c k = G c k) ∧ ∀ c k, S c k → ja c k = G c k
theorem zQ_0 : zQ G ia (fun _ _ => False) ia := ⟨fun _ _ => Or.inl rfl, fun _ _ h => h.elim⟩
theorem zQ_u {S S' : Nat → Nat → Prop} {c0 k0 : Nat} {v : Int32} (h : zQ G ia S ja) (hv : v = G c0 k0) (hS : ∀ c k, S' c k → S c k ∨ c = c0 ∧ k = k0) : zQ G ia S' (zu ja c0 k0 v) := by
  refine ⟨fun c k => ?_, fun c k hk => ?_⟩
  · rw [zu_at]
    by_cases e : c = c0 ∧ k = k0
    · rw [if_pos e, hv, e.1, e.2]; exact Or.inr rfl
    · rw [if_neg e]; exact h.1 c k
  · rw [zu_at]
    by_cases e : c = c0 ∧ k = k0
    · rw [if_pos e, hv, e.1, e.2]
    · rw [if_neg e]
      rcases hS c k hk with q | q
      · exact h.2 c k q
      · exact absurd q e
theorem zQ_s {S S' : Nat → Nat → Prop} (h : zQ G ia S ja) (hS : ∀ c k, S' c k → S c k) : zQ G ia S' ja := ⟨h.1, fun c k q => h.2 c k (hS c k q)⟩
theorem zQ_end {S : Nat → Nat → Prop} (h : zQ G ia S ja) (hS : ∀ c k, ¬ S c k → G c k = ia c k) : ja = G := by
  funext c k
  by_cases e : S c k
  · exact h.2 c k e
  · rcases h.1 c k with q | q
    · rw [q, hS c k e]
    · exact q
theorem zQ_has {S : Nat → Nat → Prop} {a : Nat} (h : zQ G ia S ja) (h1 : zHas N a W r ia) (h2 : zHas N a W r G) : zHas N a W r ja := by
  have key : ∀ c k (v : Int32), ia c k = v → G c k = v → ja c k = v := by
    intro c k v e1 e2
    rcases h.1 c k with q | q
    · rw [q, e1]
    · rw [q, e2]
  obtain ⟨a7, a8, a9, a0, a1, a2, a3, a57, a58⟩ := h1
  obtain ⟨b7, b8, b9, b0, b1, b2, b3, b57, b58⟩ := h2
  exact ⟨key _ _ _ a7 b7, key _ _ _ a8 b8, key _ _ _ a9 b9, key _ _ _ a0 b0, key _ _ _ a1 b1, fun i hi => key _ _ _ (a2 i hi) (b2 i hi), fun i hi => ⟨key _ _ _ (a3 i hi).1 (b3 i hi).1, key _ _ _ (a3 i hi).2.1 (b3 i hi).2.1, key _ _ _ (a3 i hi).2.2.1 (b3 i hi).2.2.1, key _ _ _ (a3 i hi).2.2.2 (b3 i hi).2.2.2⟩, fun i hi => key _ _ _ (a57 i hi) (b57 i hi), fun i hi => key _ _ _ (a58 i hi) (b58 i hi)⟩
/-- what is done when p people and l letters are -/
def zSd (t p j l m : Nat) (c k : Nat) : Prop := (147 ≤ c ∧ c ≤ 151 ∧ k = t) ∨ (c = 152 ∧ 18 * t ≤ k ∧ k < 18 * t + (3 * p + j)) ∨ (153 ≤ c ∧ c ≤ 156 ∧ 6 * t ≤ k ∧ k < 6 * t + p) ∨ (c = 157 ∧ 12 * t ≤ k ∧ k < 12 * t + l) ∨ (c = 158 ∧ 36 * t ≤ k ∧ k < 36 * t + m)
theorem zst1 {A R R' X : Prop} (h : R' → R ∨ X) (q : A ∨ R') : (A ∨ R) ∨ X := by
  rcases q with a | r
  · exact Or.inl (Or.inl a)
  · rcases h r with r | x
    · exact Or.inl (Or.inr r)
    · exact Or.inr x
theorem zSd_2 {t p j l m c k : Nat} (h : zSd t p (j + 1) l m c k) : zSd t p j l m c k ∨ c = 152 ∧ k = 18 * t + (3 * p + j) := by
  rcases h with h | h | h | h | h
  · exact Or.inl (Or.inl h)
  · by_cases e : k = 18 * t + (3 * p + j)
    · exact Or.inr ⟨h.1, e⟩
    · exact Or.inl (Or.inr (Or.inl ⟨h.1, h.2.1, by omega⟩))
  · exact Or.inl (Or.inr (Or.inr (Or.inl h)))
  · exact Or.inl (Or.inr (Or.inr (Or.inr (Or.inl h))))
  · exact Or.inl (Or.inr (Or.inr (Or.inr (Or.inr h))))
theorem zSd_7 {t p j l m c k : Nat} (h : zSd t p j (l + 1) m c k) : zSd t p j l m c k ∨ c = 157 ∧ k = 12 * t + l := by
  rcases h with h | h | h | h | h
  · exact Or.inl (Or.inl h)
  · exact Or.inl (Or.inr (Or.inl h))
  · exact Or.inl (Or.inr (Or.inr (Or.inl h)))
  · by_cases e : k = 12 * t + l
    · exact Or.inr ⟨h.1, e⟩
    · exact Or.inl (Or.inr (Or.inr (Or.inr (Or.inl ⟨h.1, h.2.1, by omega⟩))))
  · exact Or.inl (Or.inr (Or.inr (Or.inr (Or.inr h))))
theorem zSd_8 {t p j l m c k : Nat} (h : zSd t p j l (m + 1) c k) : zSd t p j l m c k ∨ c = 158 ∧ k = 36 * t + m := by
  rcases h with h | h | h | h | h
  · exact Or.inl (Or.inl h)
  · exact Or.inl (Or.inr (Or.inl h))
  · exact Or.inl (Or.inr (Or.inr (Or.inl h)))
  · exact Or.inl (Or.inr (Or.inr (Or.inr (Or.inl h))))
  · by_cases e : k = 36 * t + m
    · exact Or.inr ⟨h.1, e⟩
    · exact Or.inl (Or.inr (Or.inr (Or.inr (Or.inr ⟨h.1, h.2.1, by omega⟩))))
theorem zSd_3 {t p l m c k : Nat} (h : zSd t (p + 1) 0 l m c k) : zSd t p 3 l m c k ∨ (153 ≤ c ∧ c ≤ 156 ∧ k = 6 * t + p) := by
  rcases h with h | h | h | h | h
  · exact Or.inl (Or.inl h)
  · exact Or.inl (Or.inr (Or.inl ⟨h.1, h.2.1, by omega⟩))
  · by_cases e : k = 6 * t + p
    · exact Or.inr ⟨h.1, h.2.1, e⟩
    · exact Or.inl (Or.inr (Or.inr (Or.inl ⟨h.1, h.2.1, h.2.2.1, by omega⟩)))
  · exact Or.inl (Or.inr (Or.inr (Or.inr (Or.inl h))))
  · exact Or.inl (Or.inr (Or.inr (Or.inr (Or.inr h))))
theorem zSd_0 {t c k : Nat} (h : zSd t 0 0 0 0 c k) : 147 ≤ c ∧ c ≤ 151 ∧ k = t := by
  rcases h with h | h | h | h | h
  · exact h
  · exfalso; omega
  · exfalso; omega
  · exfalso; omega
  · exfalso; omega
theorem S_copies {t a : Nat} (ht : t < 23) (ha : a < 23) (hne : a ≠ t) (h : zHas N a W r ia) : zWM d 170 [.ref 127, .int (nI t), .int (nI a)] (ia, la, zRA pl dr cp cw rp) K = K none (zPM N t W r ia, la, zRA pl dr cp cw rp) := by
  have hG : zHas N t W r (zPM N t W r ia) := zHas_M
  have hGa : zHas N a W r (zPM N t W r ia) := zHas_o hne h
  have hout : ∀ c k, ¬ zSd t 6 0 12 36 c k → zPM N t W r ia c k = ia c k := fun c k q => zPM_out (by unfold zSd at q; unfold zIn; omega)
  generalize zPM N t W r ia = G at hG hGa hout ⊢
  obtain ⟨g7, g8, g9, g0, g1, g2, g3, g57, g58⟩ := hG
  have l2 : ∀ (n l : Nat) (ja : Nat → Nat → Int32) (a4 a5 a6 : Option Value), l + n = 12 → zQ G ia (zSd t 6 0 l (3 * l)) ja → zWP d 170 187 [some (.ref 127), some (.int (nI t)), some (.int (nI a)), some (.int (nI l)), a4, a5, a6] [] (ja, la, zRA pl dr cp cw rp) K = K none (G, la, zRA pl dr cp cw rp) := by
    intro n
    induction n with
    | zero =>
      intro l ja a4 a5 a6 hl hQ
      rw [b170_187, if_pos (by rw [show l = 12 by omega]; decide)]
      rw [zQ_end hQ (fun c k q => hout c k (fun z => q (by rw [show l = 12 by omega]; exact z)))]
    | succ n ih =>
      intro l ja a4 a5 a6 hl hQ
      obtain ⟨_, _, _, _, _, _, _, j57, j58⟩ := zQ_has hQ h hGa
      rw [b170_187, if_neg (z12le (by omega)), m12, m12, zg (by omega) (by omega), zg (by omega) (by omega), zcln (by omega), zcln (by omega)]
      have q1 : zQ G ia (zSd t 6 0 (l + 1) (3 * l)) (zu ja 157 (12 * t + l) (ja 157 (12 * a + l))) := zQ_u hQ (by rw [j57 l (by omega), g57 l (by omega)]) (fun c k q => zSd_7 q)
      generalize zu ja 157 (12 * t + l) (ja 157 (12 * a + l)) = ja1 at q1 ⊢
      have st : ∀ (j : Nat) (ja : Nat → Nat → Int32), j < 3 → zQ G ia (zSd t 6 0 (l + 1) (3 * l + j)) ja → ∃ jb, zQ G ia (zSd t 6 0 (l + 1) (3 * l + j + 1)) jb ∧ zWP d 170 226 [some (.ref 127), some (.int (nI t)), some (.int (nI a)), some (.int (nI l)), some (.int (nI (12 * t + l))), some (.int (nI (12 * a + l))), some (.int (nI j))] [] (ja, la, zRA pl dr cp cw rp) K = zWP d 170 226 [some (.ref 127), some (.int (nI t)), some (.int (nI a)), some (.int (nI l)), some (.int (nI (12 * t + l))), some (.int (nI (12 * a + l))), some (.int (nI (j + 1)))] [] (jb, la, zRA pl dr cp cw rp) K := by
        intro j ja hj hQ
        obtain ⟨_, _, _, _, _, _, _, j57, j58⟩ := zQ_has hQ h hGa
        refine ⟨zu ja 158 (36 * t + (3 * l + j)) (ja 158 (36 * a + (3 * l + j))), zQ_u hQ (by rw [j58 _ (by omega), g58 _ (by omega)]) (fun c k q => zSd_8 q), ?_⟩
        rw [b170_226, if_neg (z3le hj), m3, m3, zg (by omega) (by omega), zg (by omega) (by omega), zcln (by omega), zcln (by omega), ns, show 3 * (12 * t + l) + j = 36 * t + (3 * l + j) by omega, show 3 * (12 * a + l) + j = 36 * a + (3 * l + j) by omega]
      obtain ⟨jb, q2, e2⟩ := st 0 ja1 (by omega) q1
      obtain ⟨jc, q3, e3⟩ := st 1 jb (by omega) q2
      obtain ⟨jd, q4, e4⟩ := st 2 jc (by omega) q3
      refine Eq.trans e2 ?_
      rw [e3, e4, b170_226, if_pos (by decide), ns]
      exact ih (l + 1) jd _ _ _ (by omega) q4
  have l1 : ∀ (n p : Nat) (ja : Nat → Nat → Int32) (a4 a5 a6 : Option Value), p + n = 6 → zQ G ia (zSd t p 0 0 0) ja → zWP d 170 62 [some (.ref 127), some (.int (nI t)), some (.int (nI a)), some (.int (nI p)), a4, a5, a6] [] (ja, la, zRA pl dr cp cw rp) K = K none (G, la, zRA pl dr cp cw rp) := by
    intro n
    induction n with
    | zero =>
      intro p ja a4 a5 a6 hp hQ
      have e6 : p = 6 := by omega
      subst e6
      rw [b170_62, if_pos (by decide)]
      exact l2 12 0 ja _ _ _ (by omega) hQ
    | succ n ih =>
      intro p ja a4 a5 a6 hp hQ
      rw [b170_62, if_neg (z6le (by omega)), m6, m6]
      have st : ∀ (j : Nat) (ja : Nat → Nat → Int32), j < 3 → zQ G ia (zSd t p j 0 0) ja → ∃ jb, zQ G ia (zSd t p (j + 1) 0 0) jb ∧ zWP d 170 87 [some (.ref 127), some (.int (nI t)), some (.int (nI a)), some (.int (nI p)), some (.int (nI (6 * t + p))), some (.int (nI (6 * a + p))), some (.int (nI j))] [] (ja, la, zRA pl dr cp cw rp) K = zWP d 170 87 [some (.ref 127), some (.int (nI t)), some (.int (nI a)), some (.int (nI p)), some (.int (nI (6 * t + p))), some (.int (nI (6 * a + p))), some (.int (nI (j + 1)))] [] (jb, la, zRA pl dr cp cw rp) K := by
        intro j ja hj hQ
        obtain ⟨_, _, _, _, _, j2, _⟩ := zQ_has hQ h hGa
        refine ⟨zu ja 152 (18 * t + (3 * p + j)) (ja 152 (18 * a + (3 * p + j))), zQ_u hQ (by rw [j2 _ (by omega), g2 _ (by omega)]) (fun c k q => zSd_2 q), ?_⟩
        rw [b170_87, if_neg (z3le hj), m3, m3, zg (by omega) (by omega), zg (by omega) (by omega), zcln (by omega), zcln (by omega), ns, show 3 * (6 * t + p) + j = 18 * t + (3 * p + j) by omega, show 3 * (6 * a + p) + j = 18 * a + (3 * p + j) by omega]
      obtain ⟨jb, q2, e2⟩ := st 0 ja (by omega) hQ
      obtain ⟨jc, q3, e3⟩ := st 1 jb (by omega) q2
      obtain ⟨jd, q4, e4⟩ := st 2 jc (by omega) q3
      refine Eq.trans e2 ?_
      obtain ⟨_, _, _, _, _, _, j3, _⟩ := zQ_has q4 h hGa
      obtain ⟨x3, x4, x5, x6⟩ := j3 p (by omega)
      obtain ⟨y3, y4, y5, y6⟩ := g3 p (by omega)
      rw [e3, e4, b170_87, if_pos (by decide), zg (by omega) (by omega), zg (by omega) (by omega), zcln (by omega), zcln (by omega), ns]
      simp only [zu_ne (show (154 : Nat) ≠ 153 by decide), zu_ne (show (155 : Nat) ≠ 154 by decide), zu_ne (show (155 : Nat) ≠ 153 by decide), zu_ne (show (156 : Nat) ≠ 155 by decide), zu_ne (show (156 : Nat) ≠ 154 by decide), zu_ne (show (156 : Nat) ≠ 153 by decide)]
      refine ih (p + 1) _ _ _ _ (by omega) ?_
      rw [x3, x4, x5, x6, ← y3, ← y4, ← y5, ← y6]
      refine zQ_u (S := fun c k => zSd t p 3 0 0 c k ∨ (153 ≤ c ∧ c ≤ 155 ∧ k = 6 * t + p)) (zQ_u (S := fun c k => zSd t p 3 0 0 c k ∨ (153 ≤ c ∧ c ≤ 154 ∧ k = 6 * t + p)) (zQ_u (S := fun c k => zSd t p 3 0 0 c k ∨ (c = 153 ∧ k = 6 * t + p)) (zQ_u q4 rfl ?_) rfl ?_) rfl ?_) rfl ?_
      · intro c k q; exact q
      · intro c k q; exact zst1 (fun z => by omega) q
      · intro c k q; exact zst1 (fun z => by omega) q
      · intro c k q; exact zst1 (fun z => by omega) (zSd_3 q)
  obtain ⟨h7, h8, h9, h0, h1, _⟩ := h
  rw [e170, b170_0, zg (by omega) (by omega), zg (by omega) (by omega), zcln (by omega), zcln (by omega)]
  simp only [zu_ne (show (148 : Nat) ≠ 147 by decide), zu_ne (show (149 : Nat) ≠ 147 by decide), zu_ne (show (149 : Nat) ≠ 148 by decide), zu_ne (show (150 : Nat) ≠ 147 by decide), zu_ne (show (150 : Nat) ≠ 148 by decide), zu_ne (show (150 : Nat) ≠ 149 by decide), zu_ne (show (151 : Nat) ≠ 147 by decide), zu_ne (show (151 : Nat) ≠ 148 by decide), zu_ne (show (151 : Nat) ≠ 149 by decide), zu_ne (show (151 : Nat) ≠ 150 by decide)]
  refine l1 6 0 _ none none none (by omega) ?_
  rw [h7, h8, h9, h0, h1, ← g7, ← g8, ← g9, ← g0, ← g1]
  refine zQ_u (S := fun c k => 147 ≤ c ∧ c ≤ 150 ∧ k = t) (zQ_u (S := fun c k => 147 ≤ c ∧ c ≤ 149 ∧ k = t) (zQ_u (S := fun c k => 147 ≤ c ∧ c ≤ 148 ∧ k = t) (zQ_u (S := fun c k => c = 147 ∧ k = t) (zQ_u zQ_0 ?_ ?_) ?_ ?_) ?_ ?_) ?_ ?_) ?_ ?_
  · rfl
  · intro c k q; exact Or.inr q
  · exact g8.symm ▸ rfl
  · intro c k q; omega
  · rfl
  · intro c k q; omega
  · rfl
  · intro c k q; omega
  · rfl
  · intro c k q; have := zSd_0 q; omega
end ZP
