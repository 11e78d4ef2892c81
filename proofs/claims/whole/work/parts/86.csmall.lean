/-! the class's small methods of a text -/
/-- what an E's parse may change in the class -/
def yV (rp c k : Nat) : Prop := (c = 1 ∧ (k = 3 ∨ k = 4 ∨ k = 6 ∨ k = 7 ∨ k = 8)) ∨ (c = 2 ∧ 4 ≤ k ∧ k ≤ 7) ∨ c = 5 ∨ (c = rp ∧ k = 4) ∨ c = rp + 31 ∨ c = rp + 32
def yFq (rp : Nat) (ia sa : Nat → Nat → Int32) : Prop := ∀ c k, ¬ yV rp c k → sa c k = ia c k
/-- the token from i on is read -/
def yTc (b : Nat → Nat) (n i : Nat) (sa : Nat → Nat → Int32) : Prop := i ≤ n ∧ zRd b n (zTn b n i) sa ∧ sa 2 5 = nI (zkN b n i) ∧ sa 2 6 = nI (zTp b n i) ∧ sa 2 7 = nI (zTv b n i) ∧ zLang sa
/-- signs that wait, the last one first -/
def ySt : List Nat → (Nat → Nat → Int32) → Prop
  | [], _ => True
  | k :: r, sa => sa 5 r.length = nI k ∧ k < 40 ∧ ySt r sa
def yKc (rp : Nat) (l : List (Nat × Nat)) (sa : Nat → Nat → Int32) : Prop := ∀ j, j < l.length → sa (rp + 31) j = nI (l.getD j (0, 0)).1 ∧ sa (rp + 32) j = nI (l.getD j (0, 0)).2
def yCS (b : Nat → Nat) (n rp : Nat) (ia : Nat → Nat → Int32) (i o c : Nat) (l : List (Nat × Nat)) (s : List Nat) (sa : Nat → Nat → Int32) : Prop := yTc b n i sa ∧ sa 1 3 = 0 ∧ sa 1 4 = -1 ∧ sa 1 6 = nI s.length ∧ ySt s sa ∧ sa 1 7 = nI o ∧ sa 1 8 = nI l.length ∧ sa rp 4 = nI c ∧ yKc rp l sa ∧ yFq rp ia sa
def yCf (rp : Nat) (ia : Nat → Nat → Int32) (e : Nat × Nat) (sa : Nat → Nat → Int32) : Prop := sa 1 3 = nI e.1 ∧ sa 1 4 = nI e.2 ∧ (e.1 ≠ 0 ∧ e.1 < 10) ∧ (∃ m, m ≤ 72 ∧ sa 1 6 = nI m) ∧ (∃ m, m ≤ 64 ∧ sa 1 8 = nI m) ∧ yFq rp ia sa
def ytop : List Nat → Nat
  | [] => 0
  | k :: _ => yrk k
/-- what waits last and ranks so high at least; what is below -/
def ytw (r : Nat) : List Nat → List Nat
  | [] => []
  | k :: t => if r ≤ yrk k then k :: ytw r t else []
def ydw (r : Nat) : List Nat → List Nat
  | [] => []
  | k :: t => if r ≤ yrk k then ydw r t else k :: t
theorem ytw_p {r k : Nat} {t : List Nat} (h : r ≤ yrk k) : ytw r (k :: t) = k :: ytw r t := if_pos h
theorem ytw_n {r k : Nat} {t : List Nat} (h : ¬ r ≤ yrk k) : ytw r (k :: t) = [] := if_neg h
theorem ydw_p {r k : Nat} {t : List Nat} (h : r ≤ yrk k) : ydw r (k :: t) = ydw r t := if_pos h
theorem ydw_n {r k : Nat} {t : List Nat} (h : ¬ r ≤ yrk k) : ydw r (k :: t) = k :: t := if_neg h
def ymp (w : List Nat) : List (Nat × Nat) := w.map (fun k => (k, 0))
theorem yCf_n {rp : Nat} {ia sa : Nat → Nat → Int32} {e : Nat × Nat} (h : yCf rp ia e sa) : ¬ sa 1 3 = 0 := by
  obtain ⟨h1, _, ⟨h2, h3⟩, _⟩ := h
  rw [h1]
  intro z
  exact h2 ((nI_eq (b := 0) (by omega) (by omega)).mp z)
theorem ySt_e {sa ja : Nat → Nat → Int32} : ∀ s : List Nat, (∀ j, j < s.length → ja 5 j = sa 5 j) → ySt s sa → ySt s ja := by
  intro s
  induction s with
  | nil => intro _ _; trivial
  | cons k r ih =>
    intro h hs
    exact ⟨by rw [h r.length (Nat.lt_succ_self _)]; exact hs.1, hs.2.1, ih (fun j hj => h j (Nat.lt_succ_of_lt hj)) hs.2.2⟩
section ZP
variable {d pl dr n i o c rp : Nat} {cp cw : Option Nat} {b : Nat → Nat} {ia sa : Nat → Nat → Int32} {la : Nat → Nat → Int64} {K : Option Value → zHP → Prop} {l : List (Nat × Nat)} {s : List Nat} {e : Nat × Nat}
theorem yFq_u {c k : Nat} {v : Int32} (h : yFq rp ia sa) (hw : yV rp c k) : yFq rp ia (zu sa c k v) := fun a q hn => by
  rw [zu_at, if_neg (fun z => hn (by rw [z.1, z.2]; exact hw))]; exact h a q hn
theorem yTc_b (h : yTc b n i sa) : ∀ j, j < n → b j < 256 := fun j hj => (h.2.1.2.2.2.2 j hj).1
theorem yTc_e {ja : Nat → Nat → Int32} (h : yTc b n i sa) (h1 : ∀ k, 3 ≤ k → k ≤ 7 → ja 2 k = sa 2 k) (h2 : ja 3 = sa 3) (h3 : ja 4 = sa 4) : yTc b n i ja :=
  ⟨h.1, ⟨h.2.1.1, h.2.1.2.1, by rw [h1 3 (by omega) (by omega)]; exact h.2.1.2.2.1, by rw [h1 4 (by omega) (by omega)]; exact h.2.1.2.2.2.1, fun j hj => by rw [h2]; exact h.2.1.2.2.2.2 j hj⟩, by rw [h1 5 (by omega) (by omega)]; exact h.2.2.1, by rw [h1 6 (by omega) (by omega)]; exact h.2.2.2.1, by rw [h1 7 (by omega) (by omega)]; exact h.2.2.2.2.1, fun k hk => by rw [h3]; exact h.2.2.2.2.2 k hk⟩
theorem S_advT (hr : zRd b n i sa) (hL : zLang sa) (hK : ∀ ja : Nat → Nat → Int32, (∀ c k, ¬ (c = 2 ∧ 4 ≤ k ∧ k ≤ 7) → ja c k = sa c k) → yTc b n i ja → K none (ja, la, zRA pl dr cp cw (some rp))) : zWM (d + 2) 59 [.ref 2] (sa, la, zRA pl dr cp cw (some rp)) K := by
  obtain ⟨t1, t2, t3, t4, t5, t6, t7⟩ := yt_f (fun j hj => (hr.2.2.2.2 j hj).1) hr.2.1
  refine S_adv hL hr (fun ja hja => hK ja (fun c k hc => ?_) ⟨hr.2.1, ⟨hr.1, t2, ?_, ?_, fun j hj => ⟨(hr.2.2.2.2 j hj).1, ?_⟩⟩, ?_, ?_, ?_, fun k hk => ?_⟩)
  · rw [hja, if_neg (by omega), if_neg (by omega), if_neg (by omega), if_neg (by omega)]
  · rw [hja, if_neg (by omega), if_neg (by omega), if_neg (by omega), if_neg (by omega)]; exact hr.2.2.1
  · rw [hja, if_pos ⟨rfl, rfl⟩]
  · rw [hja, if_neg (by omega), if_neg (by omega), if_neg (by omega), if_neg (by omega)]; exact (hr.2.2.2.2 j hj).2
  · rw [hja, if_neg (by omega), if_pos ⟨rfl, rfl⟩]; exact t7
  · rw [hja, if_neg (by omega), if_neg (by omega), if_pos ⟨rfl, rfl⟩]
  · rw [hja, if_neg (by omega), if_neg (by omega), if_neg (by omega), if_pos ⟨rfl, rfl⟩]
  · rw [hja, if_neg (by omega), if_neg (by omega), if_neg (by omega), if_neg (by omega)]; exact hL k hk
theorem S_advC (h : yTc b n i sa) (hK : ∀ ja : Nat → Nat → Int32, (∀ c k, ¬ (c = 2 ∧ 4 ≤ k ∧ k ≤ 7) → ja c k = sa c k) → yTc b n (zTn b n i) ja → K none (ja, la, zRA pl dr cp cw (some rp))) : zWM (d + 2) 59 [.ref 2] (sa, la, zRA pl dr cp cw (some rp)) K := S_advT h.2.1 h.2.2.2.2.2 hK
theorem S_rank {k : Nat} (hk : k < 100) : zWM d 42 [.int (nI k)] (sa, la, zRA pl dr cp cw (some rp)) K = K (some (.int (nI (yrk k)))) (sa, la, zRA pl dr cp cw (some rp)) := by
  rw [e42, b42_0]
  by_cases c0 : 7 ≤ k ∧ k ≤ 32
  · have e : k = 7 ∨ k = 8 ∨ k = 9 ∨ k = 10 ∨ k = 11 ∨ k = 12 ∨ k = 13 ∨ k = 14 ∨ k = 15 ∨ k = 16 ∨ k = 17 ∨ k = 18 ∨ k = 19 ∨ k = 20 ∨ k = 21 ∨ k = 22 ∨ k = 23 ∨ k = 24 ∨ k = 25 ∨ k = 26 ∨ k = 27 ∨ k = 28 ∨ k = 29 ∨ k = 30 ∨ k = 31 ∨ k = 32 := by omega
    rcases e with e | e | e | e | e | e | e | e | e | e | e | e | e | e | e | e | e | e | e | e | e | e | e | e | e | e <;> subst e <;> rfl
  · have z : ∀ j : Nat, 7 ≤ j → j ≤ 32 → ¬ nI k = nI j := fun j h1 h2 y => by have := (nI_eq (by omega) (by omega)).mp y; omega
    have y0 : yrk k = 0 := by unfold yrk; rw [if_neg (by omega), if_neg (by omega), if_neg (by omega), if_neg (by omega), if_neg (by omega), if_neg (by omega)]
    rw [y0, if_neg (show ¬ nI k = 7 from z 7 (by decide) (by decide)), if_neg (show ¬ nI k = 8 from z 8 (by decide) (by decide)), if_neg (show ¬ nI k = 9 from z 9 (by decide) (by decide)), if_neg (show ¬ nI k = 10 from z 10 (by decide) (by decide)), if_neg (show ¬ nI k = 11 from z 11 (by decide) (by decide)), if_neg (show ¬ nI k = 12 from z 12 (by decide) (by decide)), if_neg (show ¬ nI k = 13 from z 13 (by decide) (by decide)), if_neg (show ¬ nI k = 14 from z 14 (by decide) (by decide)), if_neg (show ¬ nI k = 15 from z 15 (by decide) (by decide)), if_neg (show ¬ nI k = 16 from z 16 (by decide) (by decide)), if_neg (show ¬ nI k = 17 from z 17 (by decide) (by decide)), if_neg (show ¬ nI k = 18 from z 18 (by decide) (by decide)), if_neg (show ¬ nI k = 19 from z 19 (by decide) (by decide)), if_neg (show ¬ nI k = 20 from z 20 (by decide) (by decide)), if_neg (show ¬ nI k = 21 from z 21 (by decide) (by decide)), if_neg (show ¬ nI k = 22 from z 22 (by decide) (by decide)), if_neg (show ¬ nI k = 23 from z 23 (by decide) (by decide)), if_neg (show ¬ nI k = 24 from z 24 (by decide) (by decide)), if_neg (show ¬ nI k = 25 from z 25 (by decide) (by decide)), if_neg (show ¬ nI k = 26 from z 26 (by decide) (by decide)), if_neg (show ¬ nI k = 27 from z 27 (by decide) (by decide)), if_neg (show ¬ nI k = 28 from z 28 (by decide) (by decide)), if_neg (show ¬ nI k = 29 from z 29 (by decide) (by decide)), if_neg (show ¬ nI k = 30 from z 30 (by decide) (by decide)), if_neg (show ¬ nI k = 31 from z 31 (by decide) (by decide)), if_neg (show ¬ nI k = 32 from z 32 (by decide) (by decide))]
    rfl
theorem S_rankA (x : Int32) : ∃ v : Int32, zWM d 42 [.int x] (sa, la, zRA pl dr cp cw (some rp)) K = K (some (.int v)) (sa, la, zRA pl dr cp cw (some rp)) := by
  rw [e42, b42_0]
  by_cases h7 : x = 7
  · exact ⟨4, if_pos h7⟩
  rw [if_neg h7]
  by_cases h8 : x = 8
  · exact ⟨4, if_pos h8⟩
  rw [if_neg h8]
  by_cases h9 : x = 9
  · exact ⟨4, if_pos h9⟩
  rw [if_neg h9]
  by_cases h10 : x = 10
  · exact ⟨4, if_pos h10⟩
  rw [if_neg h10]
  by_cases h11 : x = 11
  · exact ⟨4, if_pos h11⟩
  rw [if_neg h11]
  by_cases h12 : x = 12
  · exact ⟨4, if_pos h12⟩
  rw [if_neg h12]
  by_cases h13 : x = 13
  · exact ⟨5, if_pos h13⟩
  rw [if_neg h13]
  by_cases h14 : x = 14
  · exact ⟨5, if_pos h14⟩
  rw [if_neg h14]
  by_cases h15 : x = 15
  · exact ⟨6, if_pos h15⟩
  rw [if_neg h15]
  by_cases h16 : x = 16
  · exact ⟨6, if_pos h16⟩
  rw [if_neg h16]
  by_cases h17 : x = 17
  · exact ⟨0, if_pos h17⟩
  rw [if_neg h17]
  by_cases h18 : x = 18
  · exact ⟨0, if_pos h18⟩
  rw [if_neg h18]
  by_cases h19 : x = 19
  · exact ⟨0, if_pos h19⟩
  rw [if_neg h19]
  by_cases h20 : x = 20
  · exact ⟨0, if_pos h20⟩
  rw [if_neg h20]
  by_cases h21 : x = 21
  · exact ⟨0, if_pos h21⟩
  rw [if_neg h21]
  by_cases h22 : x = 22
  · exact ⟨0, if_pos h22⟩
  rw [if_neg h22]
  by_cases h23 : x = 23
  · exact ⟨0, if_pos h23⟩
  rw [if_neg h23]
  by_cases h24 : x = 24
  · exact ⟨0, if_pos h24⟩
  rw [if_neg h24]
  by_cases h25 : x = 25
  · exact ⟨0, if_pos h25⟩
  rw [if_neg h25]
  by_cases h26 : x = 26
  · exact ⟨0, if_pos h26⟩
  rw [if_neg h26]
  by_cases h27 : x = 27
  · exact ⟨0, if_pos h27⟩
  rw [if_neg h27]
  by_cases h28 : x = 28
  · exact ⟨0, if_pos h28⟩
  rw [if_neg h28]
  by_cases h29 : x = 29
  · exact ⟨0, if_pos h29⟩
  rw [if_neg h29]
  by_cases h30 : x = 30
  · exact ⟨1, if_pos h30⟩
  rw [if_neg h30]
  by_cases h31 : x = 31
  · exact ⟨2, if_pos h31⟩
  rw [if_neg h31]
  by_cases h32 : x = 32
  · exact ⟨3, if_pos h32⟩
  rw [if_neg h32]
  exact ⟨0, rfl⟩
/-! behind a fault -/
theorem G_fail {v : Int32} (hf : ¬ sa 1 3 = 0) : zWM d 23 [.ref 1, .int v] (sa, la, zRA pl dr cp cw (some rp)) K = K none (sa, la, zRA pl dr cp cw (some rp)) := by
  rw [e23, b23_0, if_pos hf]
theorem G_take {v : Int32} (hf : ¬ sa 1 3 = 0) : zWM (d + 1) 24 [.ref 1, .int v] (sa, la, zRA pl dr cp cw (some rp)) K = K none (sa, la, zRA pl dr cp cw (some rp)) := by
  rw [e24, b24_0, if_pos hf, G_fail hf, kN, b24_33]
theorem G_cnt (hrp : zIsP rp) (h : yCf rp ia e sa) (hK : ∀ ja : Nat → Nat → Int32, yCf rp ia e ja → K none (ja, la, zRA pl dr cp cw (some rp))) : zWM (d + 1) 38 [.ref 1] (sa, la, zRA pl dr cp cw (some rp)) K := by
  have hn := yCf_n h
  rw [e38, b38_0 hrp]
  split
  · obtain ⟨h1, h2, h3, ⟨m, m1, m2⟩, ⟨q, q1, q2⟩, h5⟩ := h
    have hr : rp = 6 ∨ rp = 39 := hrp
    exact hK _ ⟨by rw [zu_o (by omega)]; exact h1, by rw [zu_o (by omega)]; exact h2, h3, ⟨m, m1, by rw [zu_o (by omega)]; exact m2⟩, ⟨q, q1, by rw [zu_o (by omega)]; exact q2⟩, yFq_u h5 (Or.inr (Or.inr (Or.inr (Or.inl ⟨rfl, rfl⟩))))⟩
  · rw [G_fail hn, kN, b38_17]; exact hK _ h
theorem G_hold {v : Int32} (h : yCf rp ia e sa) (hK : ∀ ja : Nat → Nat → Int32, yCf rp ia e ja → K none (ja, la, zRA pl dr cp cw (some rp))) : zWM d 39 [.ref 1, .int v] (sa, la, zRA pl dr cp cw (some rp)) K := by
  have h0 := h
  obtain ⟨h1, h2, h3, ⟨m, m1, m2⟩, ⟨q, q1, q2⟩, h5⟩ := h
  rw [e39, b39_0, m2]
  by_cases c : 72 ≤ m
  · rw [if_pos (show (72 : Int32) ≤ nI m from nI_le1 (a := 72) c (by omega))]; exact hK _ h0
  · rw [if_neg (show ¬ (72 : Int32) ≤ nI m from nI_nle1 (a := 72) (by omega) (by omega)), zg (by omega) (by omega), zcln (by omega), zu_o (show (1 : Nat) ≠ 5 by decide), m2, ns]
    exact hK _ ⟨by rw [zu_k (by decide), zu_o (by decide)]; exact h1, by rw [zu_k (by decide), zu_o (by decide)]; exact h2, h3, ⟨m + 1, by omega, zu_eq _ _ _ _⟩, ⟨q, q1, by rw [zu_k (by decide), zu_o (by decide)]; exact q2⟩, yFq_u (yFq_u h5 (Or.inr (Or.inr (Or.inl rfl)))) (Or.inl ⟨rfl, by omega⟩)⟩
theorem G_set {v u : Int32} (hrp : zIsP rp) (h : yCf rp ia e sa) (hK : ∀ ja : Nat → Nat → Int32, yCf rp ia e ja → K none (ja, la, zRA pl dr cp cw (some rp))) : zWM d 40 [.ref 1, .int v, .int u] (sa, la, zRA pl dr cp cw (some rp)) K := by
  have h0 := h
  have hr : rp = 6 ∨ rp = 39 := hrp
  obtain ⟨h1, h2, h3, ⟨m, m1, m2⟩, ⟨q, q1, q2⟩, h5⟩ := h
  rw [e40, b40_0 hrp, q2]
  by_cases c : 64 ≤ q
  · rw [if_pos (show (64 : Int32) ≤ nI q from nI_le1 (a := 64) c (by omega))]; exact hK _ h0
  · rw [if_neg (show ¬ (64 : Int32) ≤ nI q from nI_nle1 (a := 64) (by omega) (by omega)), zg (by omega) (by omega), zcln (by omega), zu_o (show (1 : Nat) ≠ rp + 31 by omega), q2, zg (by omega) (by omega), zcln (by omega), zu_o (show (1 : Nat) ≠ rp + 32 by omega), zu_o (show (1 : Nat) ≠ rp + 31 by omega), q2, ns]
    have o1 : ∀ k, k ≠ 8 → zu (zu (zu sa (rp + 31) q v) (rp + 32) q u) 1 8 (nI (q + 1)) 1 k = sa 1 k := fun k hk => by rw [zu_k hk, zu_o (by omega), zu_o (by omega)]
    exact hK _ ⟨by rw [o1 3 (by decide)]; exact h1, by rw [o1 4 (by decide)]; exact h2, h3, ⟨m, m1, by rw [o1 6 (by decide)]; exact m2⟩, ⟨q + 1, by omega, zu_eq _ _ _ _⟩, yFq_u (yFq_u (yFq_u h5 (Or.inr (Or.inr (Or.inr (Or.inr (Or.inl rfl)))))) (Or.inr (Or.inr (Or.inr (Or.inr (Or.inr rfl)))))) (Or.inl ⟨rfl, by omega⟩)⟩
theorem G_settle0 {r : Int32} (hrp : zIsP rp) : ∀ (q : Nat) (sa : Nat → Nat → Int32), yCf rp ia e sa → (∃ m, m ≤ q ∧ m ≤ 72 ∧ sa 1 6 = nI m) → (∀ ja : Nat → Nat → Int32, yCf rp ia e ja → K none (ja, la, zRA pl dr cp cw (some rp))) → zWP (d + 1) 41 0 [some (.ref 1), some (.int r)] [] (sa, la, zRA pl dr cp cw (some rp)) K := by
  intro q
  induction q with
  | zero =>
    intro sa h hq hK
    obtain ⟨m, m1, _, m2⟩ := hq
    obtain rfl : m = 0 := by omega
    rw [b41_0, m2, if_pos (show nI 0 ≤ 0 by decide)]
    exact hK _ h
  | succ q ih =>
    intro sa h hq hK
    obtain ⟨m, m1, m7, m2⟩ := hq
    by_cases c0 : m = 0
    · subst c0
      rw [b41_0, m2, if_pos (show nI 0 ≤ 0 by decide)]
      exact hK _ h
    obtain ⟨p, rfl⟩ : ∃ p, m = p + 1 := ⟨m - 1, by omega⟩
    rw [b41_0, m2, if_neg (show ¬ nI (p + 1) ≤ 0 from nI_nle1 (b := 0) (by omega) (by omega)), np, zg (by omega) (by omega), zcln (by omega)]
    obtain ⟨v, hv⟩ := S_rankA (d := d) (pl := pl) (dr := dr) (cp := cp) (cw := cw) (rp := rp) (sa := sa) (la := la) (K := zK (d + 1) 41 21 [some (.ref 1), some (.int r)] [] K) (sa 5 p)
    rw [hv, kS, b41_21]
    by_cases c1 : v < r
    · rw [if_pos c1]; exact hK _ h
    rw [if_neg c1, m2, np, zu_eq, zg (by omega) (by omega)]
    have h' : yCf rp ia e (zu sa 1 6 (nI p)) := by
      obtain ⟨h1, h2, h3, _, ⟨q, q1, q2⟩, h5⟩ := h
      exact ⟨by rw [zu_k (by decide)]; exact h1, by rw [zu_k (by decide)]; exact h2, h3, ⟨p, by omega, zu_eq _ _ _ _⟩, ⟨q, q1, by rw [zu_k (by decide)]; exact q2⟩, yFq_u h5 (Or.inl ⟨rfl, by omega⟩)⟩
    have hr : rp = 6 ∨ rp = 39 := hrp
    -- what stands down, or doesn't
    obtain ⟨h1, h2, h3, _, ⟨t, t1, t2⟩, h5⟩ := h'
    rw [e40, b40_0 hrp, t2]
    by_cases c : 64 ≤ t
    · rw [if_pos (show (64 : Int32) ≤ nI t from nI_le1 (a := 64) c (by omega)), kN, b41_49]
      exact ih _ ⟨h1, h2, h3, ⟨p, by omega, zu_eq _ _ _ _⟩, ⟨t, t1, t2⟩, h5⟩ ⟨p, by omega, by omega, zu_eq _ _ _ _⟩ hK
    · rw [if_neg (show ¬ (64 : Int32) ≤ nI t from nI_nle1 (a := 64) (by omega) (by omega)), zg (by omega) (by omega), zcln (by omega), zu_o (show (1 : Nat) ≠ rp + 31 by omega), t2, zg (by omega) (by omega), zcln (by omega), zu_o (show (1 : Nat) ≠ rp + 32 by omega), zu_o (show (1 : Nat) ≠ rp + 31 by omega), t2, ns, zcln (by omega), kN, b41_49]
      have o1 : ∀ (x y : Int32) k, k ≠ 8 → zu (zu (zu (zu sa 1 6 (nI p)) (rp + 31) t x) (rp + 32) t y) 1 8 (nI (t + 1)) 1 k = zu sa 1 6 (nI p) 1 k := fun x y k hk => by rw [zu_k hk, zu_o (by omega), zu_o (by omega)]
      exact ih _ ⟨by rw [o1 _ _ 3 (by decide)]; exact h1, by rw [o1 _ _ 4 (by decide)]; exact h2, h3, ⟨p, by omega, by rw [o1 _ _ 6 (by decide)]; exact zu_eq _ _ _ _⟩, ⟨t + 1, by omega, zu_eq _ _ _ _⟩, yFq_u (yFq_u (yFq_u h5 (Or.inr (Or.inr (Or.inr (Or.inr (Or.inl rfl)))))) (Or.inr (Or.inr (Or.inr (Or.inr (Or.inr rfl)))))) (Or.inl ⟨rfl, by omega⟩)⟩ ⟨p, by omega, by omega, by rw [o1 _ _ 6 (by decide)]; exact zu_eq _ _ _ _⟩ hK
theorem G_settle {r : Int32} (hrp : zIsP rp) (h : yCf rp ia e sa) (hK : ∀ ja : Nat → Nat → Int32, yCf rp ia e ja → K none (ja, la, zRA pl dr cp cw (some rp))) : zWM (d + 1) 41 [.ref 1, .int r] (sa, la, zRA pl dr cp cw (some rp)) K := by
  rw [e41]
  obtain ⟨m, m1, m2⟩ := h.2.2.2.1
  exact G_settle0 hrp m sa h ⟨m, Nat.le_refl _, m1, m2⟩ hK
/-! in the course of an E -/
theorem C_fail {v : Nat} {u : Int32} (h : yCS b n rp ia i o c l s sa) (hu : u = nI v) (h0 : v ≠ 0) (h9 : v < 10) (hs : s.length ≤ 72) (hl : l.length ≤ 64) (hK : ∀ ja : Nat → Nat → Int32, yCf rp ia (v, zTp b n i) ja → K none (ja, la, zRA pl dr cp cw (some rp))) : zWM d 23 [.ref 1, .int u] (sa, la, zRA pl dr cp cw (some rp)) K := by
  obtain ⟨h1, h2, h3, h4, h5, h6, h7, h8, h10, h11⟩ := h
  rw [e23, b23_0, if_neg (fun y => y h2), hu, zu_o (show (2 : Nat) ≠ 1 by decide), h1.2.2.2.1]
  exact hK _ ⟨by rw [zu_k (by decide), zu_eq], zu_eq _ _ _ _, ⟨h0, h9⟩, ⟨s.length, hs, by rw [zu_k (by decide), zu_k (by decide)]; exact h4⟩, ⟨l.length, hl, by rw [zu_k (by decide), zu_k (by decide)]; exact h7⟩, yFq_u (yFq_u h11 (Or.inl ⟨rfl, by omega⟩)) (Or.inl ⟨rfl, by omega⟩)⟩
theorem C_take (h : yCS b n rp ia i o c l s sa) {u : Int32} (hu : u = nI (zkN b n i)) (hrp : zIsP rp) (hK : ∀ ja : Nat → Nat → Int32, yCS b n rp ia (zTn b n i) o c l s ja → K none (ja, la, zRA pl dr cp cw (some rp))) : zWM (d + 3) 24 [.ref 1, .int u] (sa, la, zRA pl dr cp cw (some rp)) K := by
  have hr : rp = 6 ∨ rp = 39 := hrp
  obtain ⟨h1, h2, h3, h4, h5, h6, h7, h8, h10, h11⟩ := h
  rw [e24, b24_0, if_neg (fun y => y h2), h1.2.2.1, hu, if_neg (fun y => y rfl)]
  refine S_advC h1 (fun ja g1 g2 => ?_)
  rw [kN, b24_25]
  refine hK ja ⟨g2, by rw [g1 1 3 (by omega)]; exact h2, by rw [g1 1 4 (by omega)]; exact h3, by rw [g1 1 6 (by omega)]; exact h4, ySt_e s (fun j _ => g1 5 j (by omega)) h5, by rw [g1 1 7 (by omega)]; exact h6, by rw [g1 1 8 (by omega)]; exact h7, by rw [g1 rp 4 (by omega)]; exact h8, fun j hj => by rw [g1 (rp + 31) j (by omega), g1 (rp + 32) j (by omega)]; exact h10 j hj, fun a q hn => ?_⟩
  rw [g1 a q (fun z => hn (Or.inr (Or.inl z)))]
  exact h11 a q hn
theorem C_cnt (h : yCS b n rp ia i o c l s sa) (hc : c < 64) (hrp : zIsP rp) (hK : ∀ ja : Nat → Nat → Int32, yCS b n rp ia i o (c + 1) l s ja → K none (ja, la, zRA pl dr cp cw (some rp))) : zWM (d + 1) 38 [.ref 1] (sa, la, zRA pl dr cp cw (some rp)) K := by
  have hr : rp = 6 ∨ rp = 39 := hrp
  obtain ⟨h1, h2, h3, h4, h5, h6, h7, h8, h10, h11⟩ := h
  rw [e38, b38_0 hrp, h8, if_pos (show nI c < 64 from nI_lt (b := 64) hc (by omega)), ns]
  have o1 : ∀ a, a ≠ rp → zu sa rp 4 (nI (c + 1)) a = sa a := fun a ha => zu_o ha
  exact hK _ ⟨yTc_e h1 (fun k _ _ => by rw [o1 2 (by omega)]) (o1 3 (by omega)) (o1 4 (by omega)), by rw [o1 1 (by omega)]; exact h2, by rw [o1 1 (by omega)]; exact h3, by rw [o1 1 (by omega)]; exact h4, ySt_e s (fun j _ => by rw [o1 5 (by omega)]) h5, by rw [o1 1 (by omega)]; exact h6, by rw [o1 1 (by omega)]; exact h7, zu_eq _ _ _ _, fun j hj => by rw [o1 (rp + 31) (by omega), o1 (rp + 32) (by omega)]; exact h10 j hj, yFq_u h11 (Or.inr (Or.inr (Or.inr (Or.inl ⟨rfl, rfl⟩))))⟩
theorem C_c64 (h : yCS b n rp ia i o c l s sa) (hc : c = 64) (hs : s.length ≤ 72) (hl : l.length ≤ 64) (hrp : zIsP rp) (hK : ∀ ja : Nat → Nat → Int32, yCf rp ia (2, zTp b n i) ja → K none (ja, la, zRA pl dr cp cw (some rp))) : zWM (d + 1) 38 [.ref 1] (sa, la, zRA pl dr cp cw (some rp)) K := by
  rw [e38, b38_0 hrp, h.2.2.2.2.2.2.2.1, hc, if_neg (show ¬ nI 64 < 64 by decide)]
  exact C_fail h rfl (by decide) (by decide) hs hl (fun ja hj => by rw [kN, b38_17]; exact hK ja hj)
theorem C_hold {k : Nat} {u : Int32} (h : yCS b n rp ia i o c l s sa) (hu : u = nI k) (hk : k < 40) (hs : s.length < 72) (hrp : zIsP rp) (hK : ∀ ja : Nat → Nat → Int32, yCS b n rp ia i o c l (k :: s) ja → K none (ja, la, zRA pl dr cp cw (some rp))) : zWM d 39 [.ref 1, .int u] (sa, la, zRA pl dr cp cw (some rp)) K := by
  have hr : rp = 6 ∨ rp = 39 := hrp
  obtain ⟨h1, h2, h3, h4, h5, h6, h7, h8, h10, h11⟩ := h
  rw [e39, b39_0, h4, if_neg (show ¬ (72 : Int32) ≤ nI s.length from nI_nle1 (a := 72) hs (by omega)), zg (by omega) (by omega), zcln (by omega), zu_o (show (1 : Nat) ≠ 5 by decide), h4, ns, hu]
  have o1 : ∀ a, a ≠ 1 → a ≠ 5 → zu (zu sa 5 s.length (nI k)) 1 6 (nI (s.length + 1)) a = sa a := fun a g1 g2 => by rw [zu_o g1, zu_o g2]
  have o2 : ∀ q, q ≠ 6 → zu (zu sa 5 s.length (nI k)) 1 6 (nI (s.length + 1)) 1 q = sa 1 q := fun q g1 => by rw [zu_k g1, zu_o (by decide)]
  refine hK _ ⟨yTc_e h1 (fun k _ _ => by rw [o1 2 (by omega) (by omega)]) (o1 3 (by omega) (by omega)) (o1 4 (by omega) (by omega)), by rw [o2 3 (by omega)]; exact h2, by rw [o2 4 (by omega)]; exact h3, zu_eq _ _ _ _, ⟨by rw [zu_o (by decide), zu_eq], hk, ySt_e s (fun j hj => by rw [zu_o (by decide), zu_k (by omega)]) h5⟩, by rw [o2 7 (by omega)]; exact h6, by rw [o2 8 (by omega)]; exact h7, by rw [o1 rp (by omega) (by omega)]; exact h8, fun j hj => by rw [o1 (rp + 31) (by omega) (by omega), o1 (rp + 32) (by omega) (by omega)]; exact h10 j hj, yFq_u (yFq_u h11 (Or.inr (Or.inr (Or.inl rfl)))) (Or.inl ⟨rfl, by omega⟩)⟩
theorem C_set {k v : Nat} {u w : Int32} (h : yCS b n rp ia i o c l s sa) (hu : u = nI k) (hw : w = nI v) (hl : l.length < 64) (hrp : zIsP rp) (hK : ∀ ja : Nat → Nat → Int32, yCS b n rp ia i o c (l ++ [(k, v)]) s ja → K none (ja, la, zRA pl dr cp cw (some rp))) : zWM d 40 [.ref 1, .int u, .int w] (sa, la, zRA pl dr cp cw (some rp)) K := by
  have hr : rp = 6 ∨ rp = 39 := hrp
  obtain ⟨h1, h2, h3, h4, h5, h6, h7, h8, h10, h11⟩ := h
  rw [e40, b40_0 hrp, h7, if_neg (show ¬ (64 : Int32) ≤ nI l.length from nI_nle1 (a := 64) hl (by omega)), zg (by omega) (by omega), zcln (by omega), zu_o (show (1 : Nat) ≠ rp + 31 by omega), h7, zg (by omega) (by omega), zcln (by omega), zu_o (show (1 : Nat) ≠ rp + 32 by omega), zu_o (show (1 : Nat) ≠ rp + 31 by omega), h7, ns, hu, hw]
  have o1 : ∀ a, a ≠ 1 → a ≠ rp + 31 → a ≠ rp + 32 → zu (zu (zu sa (rp + 31) l.length (nI k)) (rp + 32) l.length (nI v)) 1 8 (nI (l.length + 1)) a = sa a := fun a g1 g2 g3 => by rw [zu_o g1, zu_o g3, zu_o g2]
  have o2 : ∀ q, q ≠ 8 → zu (zu (zu sa (rp + 31) l.length (nI k)) (rp + 32) l.length (nI v)) 1 8 (nI (l.length + 1)) 1 q = sa 1 q := fun q g1 => by rw [zu_k g1, zu_o (by omega), zu_o (by omega)]
  refine hK _ ⟨yTc_e h1 (fun k _ _ => by rw [o1 2 (by omega) (by omega) (by omega)]) (o1 3 (by omega) (by omega) (by omega)) (o1 4 (by omega) (by omega) (by omega)), by rw [o2 3 (by omega)]; exact h2, by rw [o2 4 (by omega)]; exact h3, by rw [o2 6 (by omega)]; exact h4, ySt_e s (fun j _ => by rw [o1 5 (by omega) (by omega) (by omega)]) h5, by rw [o2 7 (by omega)]; exact h6, by rw [zu_eq, List.length_append]; rfl, by rw [o1 rp (by omega) (by omega) (by omega)]; exact h8, fun j hj => ?_, yFq_u (yFq_u (yFq_u h11 (Or.inr (Or.inr (Or.inr (Or.inr (Or.inl rfl)))))) (Or.inr (Or.inr (Or.inr (Or.inr (Or.inr rfl)))))) (Or.inl ⟨rfl, by omega⟩)⟩
  rw [List.length_append] at hj
  have hj : j < l.length + 1 := hj
  have f1 : zu (zu (zu sa (rp + 31) l.length (nI k)) (rp + 32) l.length (nI v)) 1 8 (nI (l.length + 1)) (rp + 31) = zu sa (rp + 31) l.length (nI k) (rp + 31) := by rw [zu_o (by omega), zu_o (by omega)]
  have f2 : zu (zu (zu sa (rp + 31) l.length (nI k)) (rp + 32) l.length (nI v)) 1 8 (nI (l.length + 1)) (rp + 32) = zu (zu sa (rp + 31) l.length (nI k)) (rp + 32) l.length (nI v) (rp + 32) := by rw [zu_o (by omega)]
  rw [f1, f2]
  by_cases e : j = l.length
  · rw [e, ygetD_r, zu_eq, zu_eq]; exact ⟨rfl, rfl⟩
  · rw [ygetD_l (by omega), zu_k (by omega), zu_k (by omega), zu_o (show rp + 32 ≠ rp + 31 by omega)]; exact h10 j (by omega)
theorem ymp_c {k : Nat} {w : List Nat} : ymp (k :: w) = (k, 0) :: ymp w := rfl
theorem C_settle0 {r : Nat} (hr1 : 1 ≤ r) (hr6 : r < 10) (hrp : zIsP rp) : ∀ (s : List Nat) (l : List (Nat × Nat)) (sa : Nat → Nat → Int32), yCS b n rp ia i o c l s sa → s.length ≤ 72 → l.length + (ytw r s).length ≤ 64 → (∀ ja : Nat → Nat → Int32, yCS b n rp ia i o c (l ++ ymp (ytw r s)) (ydw r s) ja → K none (ja, la, zRA pl dr cp cw (some rp))) → zWP (d + 1) 41 0 [some (.ref 1), some (.int (nI r))] [] (sa, la, zRA pl dr cp cw (some rp)) K := by
  intro s
  induction s with
  | nil =>
    intro l sa h hs hl hK
    rw [b41_0, h.2.2.2.1, if_pos (show nI ([] : List Nat).length ≤ 0 by decide)]
    refine hK sa ?_
    show yCS b n rp ia i o c (l ++ []) [] sa
    rw [List.append_nil]
    exact h
  | cons k t ih =>
    intro l sa h hs hl hK
    have hs : t.length + 1 ≤ 72 := hs
    have h4 : sa 1 6 = nI (t.length + 1) := h.2.2.2.1
    obtain ⟨q1, q2, q3⟩ : sa 5 t.length = nI k ∧ k < 40 ∧ ySt t sa := h.2.2.2.2.1
    have k6 := (yrk_i k).2.2.2.2.2.2
    rw [b41_0, h4, if_neg (show ¬ nI (t.length + 1) ≤ 0 from nI_nle1 (b := 0) (by omega) (by omega)), np, zg (by omega) (by omega), zcln (by omega), q1, S_rank (by omega), kS, b41_21]
    by_cases c1 : r ≤ yrk k
    · rw [ytw_p c1, ydw_p c1] at hK
      rw [ytw_p c1] at hl
      have hl : l.length + ((ytw r t).length + 1) ≤ 64 := hl
      rw [if_neg (nI_nlt c1 (by omega)), h4, np, zu_eq, zg (by omega) (by omega), zcln (by omega), zu_o (show (5 : Nat) ≠ 1 by decide), q1]
      have h' : yCS b n rp ia i o c l t (zu sa 1 6 (nI t.length)) := by
        have hr : rp = 6 ∨ rp = 39 := hrp
        obtain ⟨h1, h2, h3, _, h5, h6, h7, h8, h10, h11⟩ := h
        exact ⟨yTc_e h1 (fun k _ _ => by rw [zu_o (by decide)]) (zu_o (by decide)) (zu_o (by decide)), by rw [zu_k (by decide)]; exact h2, by rw [zu_k (by decide)]; exact h3, zu_eq _ _ _ _, ySt_e t (fun j _ => by rw [zu_o (by decide)]) q3, by rw [zu_k (by decide)]; exact h6, by rw [zu_k (by decide)]; exact h7, by rw [zu_o (by omega)]; exact h8, fun j hj => by rw [zu_o (by omega), zu_o (by omega)]; exact h10 j hj, yFq_u h11 (Or.inl ⟨rfl, by omega⟩)⟩
      refine C_set (k := k) (v := 0) h' rfl rfl (by omega) hrp (fun ja hj => ?_)
      rw [kN, b41_49]
      refine ih (l ++ [(k, 0)]) ja hj (by omega) (by rw [List.length_append]; show l.length + 1 + _ ≤ 64; omega) (fun jb hb => hK jb ?_)
      rw [ymp_c]
      rw [List.append_assoc] at hb
      exact hb
    · rw [ytw_n c1, ydw_n c1] at hK
      rw [if_pos (nI_lt (by omega) (by omega))]
      refine hK sa ?_
      show yCS b n rp ia i o c (l ++ []) (k :: t) sa
      rw [List.append_nil]
      exact h
theorem C_settle {r : Nat} {u : Int32} (hr1 : 1 ≤ r) (hr6 : r < 10) (hu : u = nI r) (hrp : zIsP rp) (h : yCS b n rp ia i o c l s sa) (hs : s.length ≤ 72) (hl : l.length + (ytw r s).length ≤ 64) (hK : ∀ ja : Nat → Nat → Int32, yCS b n rp ia i o c (l ++ ymp (ytw r s)) (ydw r s) ja → K none (ja, la, zRA pl dr cp cw (some rp))) : zWM (d + 1) 41 [.ref 1, .int u] (sa, la, zRA pl dr cp cw (some rp)) K := by
  rw [e41, hu]
  exact C_settle0 hr1 hr6 hrp s l sa h hs hl hK
end ZP
