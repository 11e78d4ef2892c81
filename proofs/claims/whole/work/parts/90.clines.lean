/-! lines, read by the class -/
def yU (rp c k : Nat) : Prop := c = 1 ∨ (c = 2 ∧ 4 ≤ k ∧ k ≤ 7) ∨ c = 5 ∨ (rp ≤ c ∧ c < rp + 33)
def yFl (rp : Nat) (ia sa : Nat → Nat → Int32) : Prop := ∀ c k, ¬ yU rp c k → sa c k = ia c k
def yRow (g : Nat) : Prop := (1 ≤ g ∧ g ≤ 3) ∨ (5 ≤ g ∧ g ≤ 14) ∨ (16 ≤ g ∧ g ≤ 30)
/-- what of a plan is told -/
def yDm (N L T g k : Nat) : Prop := (g = 1 ∧ k < N) ∨ (g = 2 ∧ k < 3 * N) ∨ (g = 3 ∧ k < N) ∨ (5 ≤ g ∧ g < 5 + L ∧ k < 5) ∨ (16 ≤ g ∧ g < 16 + T ∧ k < 3) ∨ (28 ≤ g ∧ g ≤ 30 ∧ k < 3)
def yCL (b : Nat → Nat) (n rp : Nat) (ia : Nat → Nat → Int32) (D : Nat → Nat → Prop) (i N L T t : Nat) (P : Nat → Nat → Nat) (l : List (Nat × Nat)) (ln : Nat) (sa : Nat → Nat → Int32) : Prop :=
  yTc b n i sa ∧ sa 1 3 = 0 ∧ sa 1 4 = -1 ∧ sa 1 2 = nI t ∧ sa 1 8 = nI l.length ∧ sa rp 0 = nI ln ∧ sa rp 1 = nI N ∧ sa rp 2 = nI L ∧ sa rp 3 = nI T ∧ sa rp 4 = nI l.length ∧ (∀ g k, D g k → yRow g ∧ sa (rp + g) k = nI (P g k)) ∧ yKc rp l sa ∧ yFl rp ia sa
def yCe (rp : Nat) (ia : Nat → Nat → Int32) (N : Nat) (e : Nat × Nat) (sa : Nat → Nat → Int32) : Prop := sa 1 3 = nI e.1 ∧ sa 1 4 = nI e.2 ∧ (e.1 ≠ 0 ∧ e.1 < 10) ∧ sa rp 1 = nI N ∧ yFl rp ia sa
theorem yCe_n {rp N : Nat} {ia sa : Nat → Nat → Int32} {e : Nat × Nat} (h : yCe rp ia N e sa) : ¬ sa 1 3 = 0 := by
  obtain ⟨h1, _, ⟨h2, h3⟩, _⟩ := h
  rw [h1]
  intro z
  exact h2 ((nI_eq (b := 0) (by omega) (by omega)).mp z)
section ZP
variable {d pl dr n i N L T t ln rp : Nat} {cp cw : Option Nat} {b : Nat → Nat} {ia sa : Nat → Nat → Int32} {la : Nat → Nat → Int64} {K : Option Value → zHP → Prop} {l : List (Nat × Nat)} {P : Nat → Nat → Nat} {D : Nat → Nat → Prop} {e : Nat × Nat}
theorem yFl_u {c k : Nat} {v : Int32} (h : yFl rp ia sa) (hw : yU rp c k) : yFl rp ia (zu sa c k v) := fun a q hn => by
  rw [zu_at, if_neg (fun z => hn (by rw [z.1, z.2]; exact hw))]; exact h a q hn
theorem L_adv (hrp : zIsP rp) (h : yCL b n rp ia D i N L T t P l ln sa) (hK : ∀ ja, yCL b n rp ia D (zTn b n i) N L T t P l ln ja → K none (ja, la, zRA pl dr cp cw (some rp))) : zWM (d + 2) 59 [.ref 2] (sa, la, zRA pl dr cp cw (some rp)) K := by
  have hr : rp = 6 ∨ rp = 39 := hrp
  obtain ⟨h1, h2, h3, h4, h5, h6, h7, h8, h9, h10, h11, h12, h13⟩ := h
  refine S_advC h1 (fun ja g1 g2 => hK ja ⟨g2, by rw [g1 1 3 (by omega)]; exact h2, by rw [g1 1 4 (by omega)]; exact h3, by rw [g1 1 2 (by omega)]; exact h4, by rw [g1 1 8 (by omega)]; exact h5, by rw [g1 rp 0 (by omega)]; exact h6, by rw [g1 rp 1 (by omega)]; exact h7, by rw [g1 rp 2 (by omega)]; exact h8, by rw [g1 rp 3 (by omega)]; exact h9, by rw [g1 rp 4 (by omega)]; exact h10, fun g k q => ⟨(h11 g k q).1, by rw [g1 (rp + g) k (by omega)]; exact (h11 g k q).2⟩, fun j hj => by rw [g1 (rp + 31) j (by omega), g1 (rp + 32) j (by omega)]; exact h12 j hj, fun a q hn => ?_⟩)
  rw [g1 a q (fun z => hn (Or.inr (Or.inl z)))]; exact h13 a q hn
theorem L_fail {v : Nat} {u : Int32} (h : yCL b n rp ia D i N L T t P l ln sa) (hrp : zIsP rp) (hu : u = nI v) (h0 : v ≠ 0) (h9 : v < 10) (hK : ∀ ja, yCe rp ia N (v, zTp b n i) ja → K none (ja, la, zRA pl dr cp cw (some rp))) : zWM d 23 [.ref 1, .int u] (sa, la, zRA pl dr cp cw (some rp)) K := by
  have hr : rp = 6 ∨ rp = 39 := hrp
  obtain ⟨h1, h2, h3, h4, h5, h6, h7, h8, h9', h10, h11, h12, h13⟩ := h
  rw [e23, b23_0, if_neg (fun y => y h2), hu, zu_o (show (2 : Nat) ≠ 1 by decide), h1.2.2.2.1]
  exact hK _ ⟨by rw [zu_k (by decide), zu_eq], zu_eq _ _ _ _, ⟨h0, h9⟩, by rw [zu_o (by omega), zu_o (by omega)]; exact h7, yFl_u (yFl_u h13 (Or.inl rfl)) (Or.inl rfl)⟩
theorem yCL_k (h : yCL b n rp ia D i N L T t P l ln sa) : zkN b n i < 40 ∧ zTv b n i < 2 ^ 30 ∧ zTn b n i ≤ n ∧ (zkN b n i ≠ 0 → i < zTn b n i) := by
  obtain ⟨_, t2, t3, t4, _, t6, _⟩ := yt_f (yTc_b h.1) h.1.1
  exact ⟨t4, t6, t2, t3⟩
theorem L_take {k : Nat} {u : Int32} (h : yCL b n rp ia D i N L T t P l ln sa) (hrp : zIsP rp) (hu : u = nI k) (hk : k < 100) (h0 : zkN b n i = k → ∀ ja, yCL b n rp ia D (zTn b n i) N L T t P l ln ja → K none (ja, la, zRA pl dr cp cw (some rp))) (h1 : ¬ zkN b n i = k → ∀ ja, yCe rp ia N (1, zTp b n i) ja → K none (ja, la, zRA pl dr cp cw (some rp))) : zWM (d + 3) 24 [.ref 1, .int u] (sa, la, zRA pl dr cp cw (some rp)) K := by
  obtain ⟨k4, _⟩ := yCL_k h
  rw [e24, b24_0, if_neg (fun y => y h.2.1), h.1.2.2.1, hu]
  by_cases c : zkN b n i = k
  · rw [if_neg (fun y => y (by rw [c]))]
    exact L_adv hrp h (fun ja hj => by rw [kN, b24_25]; exact h0 c ja hj)
  · rw [if_pos (fun y => c ((nI_eq (by omega) (by omega)).mp y))]
    exact L_fail h hrp rfl (by decide) (by decide) (fun ja hj => by rw [kN, b24_33]; exact h1 c ja hj)
theorem ycN_9 {lo hi : Nat} : ycN b n lo hi i < 10 := by unfold ycN; split; split <;> omega; omega
theorem L_num {lo hi : Nat} {u v : Int32} (h : yCL b n rp ia D i N L T t P l ln sa) (hrp : zIsP rp) (hu : u = nI lo) (hv : v = nI hi) (hlo : lo < 1000000) (hhi : hi < 1000000) (h0 : ycN b n lo hi i = 0 → ∀ ja, yCL b n rp ia D (zTn b n i) N L T t P l ln ja → K (some (.int (nI (zTv b n i)))) (ja, la, zRA pl dr cp cw (some rp))) (h1 : ¬ ycN b n lo hi i = 0 → ∀ x ja, yCe rp ia N (ycN b n lo hi i, zTp b n i) ja → K (some (.int x)) (ja, la, zRA pl dr cp cw (some rp))) : zWM (d + 4) 25 [.ref 1, .int u, .int v] (sa, la, zRA pl dr cp cw (some rp)) K := by
  obtain ⟨k4, kv, _⟩ := yCL_k h
  have uc : ycN b n lo hi i = if zkN b n i = 2 then (if zTv b n i < lo ∨ hi < zTv b n i then 2 else 0) else 1 := rfl
  have bad : zkN b n i = 2 → (zTv b n i < lo ∨ hi < zTv b n i) → zWM (d + 3) 23 [.ref 1, .int 2] (sa, la, zRA pl dr cp cw (some rp)) (zK (d + 4) 25 34 [some (.ref 1), some (.int (nI lo)), some (.int (nI hi)), some (.int (sa 2 7))] [] K) := by
    intro c c2
    rw [uc, if_pos c, if_pos c2] at h1
    refine L_fail h hrp rfl (by decide) (by decide) (fun ja hj => ?_)
    rw [kN, b25_34, G_take (yCe_n hj), kN, b25_39]
    exact h1 (by decide) _ _ hj
  rw [e25, b25_0, h.1.2.2.1, hu, hv]
  by_cases c : zkN b n i = 2
  · rw [if_neg (show ¬ ¬ nI (zkN b n i) = 2 from fun y => y (by rw [c]; rfl))]
    by_cases c1 : zTv b n i < lo
    · rw [if_pos (show sa 2 7 < nI lo by rw [h.1.2.2.2.2.1]; exact nI_lt c1 (by omega))]
      exact bad c (Or.inl c1)
    rw [if_neg (show ¬ sa 2 7 < nI lo by rw [h.1.2.2.2.2.1]; exact nI_nlt (by omega) (by omega))]
    by_cases c2 : hi < zTv b n i
    · rw [if_neg (show ¬ sa 2 7 ≤ nI hi by rw [h.1.2.2.2.2.1]; exact nI_ge c2 (by omega))]
      exact bad c (Or.inr c2)
    rw [if_pos (show sa 2 7 ≤ nI hi by rw [h.1.2.2.2.2.1]; exact nI_le (by omega) (by omega)), h.1.2.2.2.2.1]
    rw [uc, if_pos c, if_neg (by omega)] at h0
    refine L_take (k := 2) h hrp rfl (by decide) (fun _ ja hj => ?_) (fun z => absurd c z)
    rw [kN, b25_39]
    exact h0 rfl _ hj
  · rw [if_pos (show ¬ nI (zkN b n i) = 2 from fun y => c ((nI_eq (b := 2) (by omega) (by omega)).mp y))]
    rw [uc, if_neg c] at h1
    refine L_take (k := 2) h hrp rfl (by decide) (fun z => absurd z c) (fun _ ja hj => ?_)
    rw [kN, b25_39]
    exact h1 (by decide) _ _ hj
theorem Ge_num {u v : Int32} (hf : ¬ sa 1 3 = 0) (hK : ∀ x, K (some (.int x)) (sa, la, zRA pl dr cp cw (some rp))) : zWM (d + 2) 25 [.ref 1, .int u, .int v] (sa, la, zRA pl dr cp cw (some rp)) K := by
  have bad : zWM (d + 1) 23 [.ref 1, .int 2] (sa, la, zRA pl dr cp cw (some rp)) (zK (d + 2) 25 34 [some (.ref 1), some (.int u), some (.int v), some (.int (sa 2 7))] [] K) := by
    rw [G_fail hf, kN, b25_34, G_take hf, kN, b25_39]; exact hK _
  have good : zWM (d + 1) 24 [.ref 1, .int 2] (sa, la, zRA pl dr cp cw (some rp)) (zK (d + 2) 25 39 [some (.ref 1), some (.int u), some (.int v), some (.int (sa 2 7))] [] K) := by
    rw [G_take hf, kN, b25_39]; exact hK _
  rw [e25, b25_0]
  split
  · exact good
  split
  · exact bad
  split
  · exact good
  · exact bad
/-- names of those told are numbers -/
def yNm (D : Nat → Nat → Prop) (N : Nat) (P : Nat → Nat → Nat) : Prop := N ≤ 6 ∧ ∀ k, k < N → D 1 k ∧ P 1 k < 2 ^ 30
theorem L_pn (h : yCL b n rp ia D i N L T t P l ln sa) (hrp : zIsP rp) (hn : yNm D N P) : zWM d 21 [.ref rp, .int (sa 2 7)] (sa, la, zRA pl dr cp cw (some rp)) K = K (some (.int (if yfi P (zTv b n i) N 0 = 6 then -1 else nI (yfi P (zTv b n i) N 0)))) (sa, la, zRA pl dr cp cw (some rp)) := by
  obtain ⟨_, kv, _⟩ := yCL_k h
  rw [S_pn hrp hn.1 h.2.2.2.2.2.2.1, h.1.2.2.2.2.1, yfi_z kv N 0 (by have := hn.1; omega) (fun j _ hj => ⟨(h.2.2.2.2.2.2.2.2.2.2.1 1 j (hn.2 j (by omega)).1).2, (hn.2 j (by omega)).2⟩)]
theorem L_name (h : yCL b n rp ia D i N L T t P l ln sa) (hrp : zIsP rp) (hn : yNm D N P) (h0 : ycW b n P N i = 0 → ∀ ja, yCL b n rp ia D (zTn b n i) N L T t P l ln ja → K (some (.int (nI (zTv b n i)))) (ja, la, zRA pl dr cp cw (some rp))) (h1 : ¬ ycW b n P N i = 0 → ∀ x ja, yCe rp ia N (ycW b n P N i, zTp b n i) ja → K (some (.int x)) (ja, la, zRA pl dr cp cw (some rp))) : zWM (d + 4) 26 [.ref 1] (sa, la, zRA pl dr cp cw (some rp)) K := by
  obtain ⟨k4, kv, _⟩ := yCL_k h
  have uc : ycW b n P N i = if zkN b n i = 3 then (if yfi P (zTv b n i) N 0 = 6 then 0 else 3) else 1 := rfl
  rw [e26, b26_0 hrp, h.1.2.2.1]
  by_cases c : zkN b n i = 3
  · rw [if_neg (show ¬ ¬ nI (zkN b n i) = 3 from fun y => y (by rw [c]; rfl)), L_pn h hrp hn, kS, b26_27]
    by_cases c2 : yfi P (zTv b n i) N 0 = 6
    · rw [uc, if_pos c, if_pos c2] at h0
      rw [if_pos c2, if_pos rfl]
      refine L_take (k := 3) h hrp rfl (by decide) (fun _ ja hj => ?_) (fun z => absurd c z)
      rw [kN, b26_41, h.1.2.2.2.2.1]
      exact h0 rfl _ hj
    · rw [uc, if_pos c, if_neg c2] at h1
      have hb := yfi_b (P := P) (v := zTv b n i) N 0 (by have := hn.1; omega)
      have := hn.1
      rw [if_neg c2, if_neg (fun z => nI_pos (n := yfi P (zTv b n i) N 0) (by omega) (by rw [z]; decide))]
      refine L_fail h hrp rfl (by decide) (by decide) (fun ja hj => ?_)
      rw [kN, b26_36, G_take (yCe_n hj), kN, b26_41]
      exact h1 (by decide) _ _ hj
  · rw [if_pos (show ¬ nI (zkN b n i) = 3 from fun y => c ((nI_eq (b := 3) (by omega) (by omega)).mp y))]
    rw [uc, if_neg c] at h1
    refine L_take (k := 3) h hrp rfl (by decide) (fun z => absurd z c) (fun _ ja hj => ?_)
    rw [kN, b26_41]
    exact h1 (by decide) _ _ hj
theorem L_pers {ow : Nat} {u : Int32} (h : yCL b n rp ia D i N L T t P l ln sa) (hrp : zIsP rp) (hn : yNm D N P) (hu : ∀ k, k < 6 → (nI k = u ↔ k = ow)) (h0 : ycO b n P N ow i = 0 → ∀ ja, yCL b n rp ia D (zTn b n i) N L T t P l ln ja → K (some (.int (nI (yfi P (zTv b n i) N 0)))) (ja, la, zRA pl dr cp cw (some rp))) (h1 : ¬ ycO b n P N ow i = 0 → ∀ x ja, yCe rp ia N (ycO b n P N ow i, zTp b n i) ja → K (some (.int x)) (ja, la, zRA pl dr cp cw (some rp))) : zWM (d + 4) 27 [.ref 1, .int u] (sa, la, zRA pl dr cp cw (some rp)) K := by
  obtain ⟨k4, kv, _⟩ := yCL_k h
  have uc : ycO b n P N ow i = if zkN b n i = 3 then (if yfi P (zTv b n i) N 0 = 6 then 4 else if yfi P (zTv b n i) N 0 = ow then 5 else 0) else 1 := rfl
  have hb := yfi_b (P := P) (v := zTv b n i) N 0 (by have := hn.1; omega)
  have h6 := hn.1
  rw [e27, b27_0 hrp, L_pn h hrp hn, kS, b27_14, h.1.2.2.1]
  by_cases c : zkN b n i = 3
  · have e3 : ¬ ¬ nI (zkN b n i) = 3 := fun y => y (by rw [c]; rfl)
    rw [if_neg e3]
    by_cases c2 : yfi P (zTv b n i) N 0 = 6
    · rw [uc, if_pos c, if_pos c2] at h1
      rw [if_pos c2, if_neg (fun y => y rfl)]
      refine L_fail h hrp rfl (by decide) (by decide) (fun ja hj => ?_)
      rw [kN, b27_36, G_take (yCe_n hj), kN, b27_65]
      exact h1 (by decide) _ _ hj
    · have n1 : ¬ nI (yfi P (zTv b n i) N 0) = -1 := fun z => nI_pos (n := yfi P (zTv b n i) N 0) (by omega) (by rw [z]; decide)
      rw [if_neg c2, if_pos n1, b27_39, h.1.2.2.1, if_neg e3]
      by_cases c3 : yfi P (zTv b n i) N 0 = ow
      · rw [uc, if_pos c, if_neg c2, if_pos c3] at h1
        rw [if_neg (fun y => y ((hu _ (by omega)).mpr c3))]
        refine L_fail h hrp rfl (by decide) (by decide) (fun ja hj => ?_)
        rw [kN, b27_60, G_take (yCe_n hj), kN, b27_65]
        exact h1 (by decide) _ _ hj
      · rw [uc, if_pos c, if_neg c2, if_neg c3] at h0
        rw [if_pos (fun y => c3 ((hu _ (by omega)).mp y))]
        refine L_take (k := 3) h hrp rfl (by decide) (fun _ ja hj => ?_) (fun z => absurd c z)
        rw [kN, b27_65]
        exact h0 rfl _ hj
  · have e3 : ¬ nI (zkN b n i) = 3 := fun y => c ((nI_eq (b := 3) (by omega) (by omega)).mp y)
    rw [uc, if_neg c] at h1
    rw [if_pos e3, b27_39, h.1.2.2.1, if_pos e3]
    refine L_take (k := 3) h hrp rfl (by decide) (fun z => absurd z c) (fun _ ja hj => ?_)
    rw [kN, b27_65]
    exact h1 (by decide) _ _ hj
theorem Ge_pers {u : Int32} (h : yCe rp ia N e sa) (hrp : zIsP rp) (h6 : N ≤ 6) (hK : ∀ x, K (some (.int x)) (sa, la, zRA pl dr cp cw (some rp))) : zWM (d + 2) 27 [.ref 1, .int u] (sa, la, zRA pl dr cp cw (some rp)) K := by
  have hf := yCe_n h
  have e39 : ∀ s0 : Int32, zWP (d + 2) 27 39 [some (.ref 1), some (.int u), some (.int s0)] [] (sa, la, zRA pl dr cp cw (some rp)) K := by
    intro s0
    have good : zWM (d + 1) 24 [.ref 1, .int 3] (sa, la, zRA pl dr cp cw (some rp)) (zK (d + 2) 27 65 [some (.ref 1), some (.int u), some (.int s0)] [] K) := by rw [G_take hf, kN, b27_65]; exact hK _
    rw [b27_39]
    split
    · exact good
    split
    · exact good
    · rw [G_fail hf, kN, b27_60]; exact good
  rw [e27, b27_0 hrp, S_pn hrp h6 h.2.2.2.1, kS, b27_14]
  split
  · exact e39 _
  split
  · exact e39 _
  · rw [G_fail hf, kN, b27_36, G_take hf, kN, b27_65]; exact hK _
theorem L_tell {j : Nat} {u : Int32} (h : yCL b n rp ia D i N L T t P l ln sa) (hrp : zIsP rp) (hu : u = nI j) (hj : j < 6) (ht : t < 2 ^ 6) (h0 : t.testBit j = false → ∀ ja, yCL b n rp ia D (zTn b n i) N L T (t ||| 2 ^ j) P l ln ja → K none (ja, la, zRA pl dr cp cw (some rp))) (h1 : t.testBit j = true → ∀ ja, yCe rp ia N (3, zTp b n i) ja → K none (ja, la, zRA pl dr cp cw (some rp))) : zWM (d + 3) 32 [.ref 1, .int u] (sa, la, zRA pl dr cp cw (some rp)) K := by
  have hr : rp = 6 ∨ rp = 39 := hrp
  rw [e32, b32_0, h.2.2.2.1, hu, ybit (by omega) (by omega)]
  by_cases c : t.testBit j = true
  · rw [if_pos c, if_neg (by decide)]
    exact L_fail h hrp rfl (by decide) (by decide) (fun ja hj => by rw [kN, b32_16]; exact h1 c ja hj)
  · rw [if_neg c, if_pos rfl, ybor (by omega)]
    have h' : yCL b n rp ia D i N L T (t ||| 2 ^ j) P l ln (zu sa 1 2 (nI (t ||| 2 ^ j))) := by
      obtain ⟨h1, h2, h3, h4, h5, h6, h7, h8, h9, h10, h11, h12, h13⟩ := h
      have o1 : ∀ a, a ≠ 1 → zu sa 1 2 (nI (t ||| 2 ^ j)) a = sa a := fun a ha => zu_o ha
      exact ⟨yTc_e h1 (fun k _ _ => by rw [o1 2 (by decide)]) (o1 3 (by decide)) (o1 4 (by decide)), by rw [zu_k (by decide)]; exact h2, by rw [zu_k (by decide)]; exact h3, zu_eq _ _ _ _, by rw [zu_k (by decide)]; exact h5, by rw [o1 rp (by omega)]; exact h6, by rw [o1 rp (by omega)]; exact h7, by rw [o1 rp (by omega)]; exact h8, by rw [o1 rp (by omega)]; exact h9, by rw [o1 rp (by omega)]; exact h10, fun g k q => ⟨(h11 g k q).1, by rw [o1 (rp + g) (by omega)]; exact (h11 g k q).2⟩, fun j hj => by rw [o1 (rp + 31) (by omega), o1 (rp + 32) (by omega)]; exact h12 j hj, yFl_u h13 (Or.inl rfl)⟩
    exact L_adv hrp h' (fun ja hj => by rw [kN, b32_36]; exact h0 (by simpa using c) ja hj)
/-- a place of the plan is written -/
theorem L_w {g k v : Nat} (h : yCL b n rp ia D i N L T t P l ln sa) (hrp : zIsP rp) (hg : yRow g) : yCL b n rp ia (fun a q => D a q ∨ (a = g ∧ q = k)) i N L T t (zu P g k v) l ln (zu sa (rp + g) k (nI v)) := by
  have hr : rp = 6 ∨ rp = 39 := hrp
  have hg' : (1 ≤ g ∧ g ≤ 3) ∨ (5 ≤ g ∧ g ≤ 14) ∨ (16 ≤ g ∧ g ≤ 30) := hg
  obtain ⟨h1, h2, h3, h4, h5, h6, h7, h8, h9, h10, h11, h12, h13⟩ := h
  have o1 : ∀ a, a ≠ rp + g → zu sa (rp + g) k (nI v) a = sa a := fun a ha => zu_o ha
  refine ⟨yTc_e h1 (fun k _ _ => by rw [o1 2 (by omega)]) (o1 3 (by omega)) (o1 4 (by omega)), by rw [o1 1 (by omega)]; exact h2, by rw [o1 1 (by omega)]; exact h3, by rw [o1 1 (by omega)]; exact h4, by rw [o1 1 (by omega)]; exact h5, by rw [o1 rp (by omega)]; exact h6, by rw [o1 rp (by omega)]; exact h7, by rw [o1 rp (by omega)]; exact h8, by rw [o1 rp (by omega)]; exact h9, by rw [o1 rp (by omega)]; exact h10, fun a q hq => ?_, fun j hj => by rw [o1 (rp + 31) (by omega), o1 (rp + 32) (by omega)]; exact h12 j hj, yFl_u h13 (Or.inr (Or.inr (Or.inr ⟨by omega, by omega⟩)))⟩
  rw [zu_at, zu_at]
  by_cases e : a = g ∧ q = k
  · rw [if_pos ⟨by omega, e.2⟩, if_pos e, e.1]; exact ⟨hg, rfl⟩
  · rcases hq with hq | hq
    · rw [if_neg (by omega), if_neg e]; exact h11 a q hq
    · exact absurd hq e
theorem Ge_w {c k : Nat} {v : Int32} (h : yCe rp ia N e sa) (hrp : zIsP rp) (h1 : rp < c) (h2 : c < rp + 33) : yCe rp ia N e (zu sa c k v) := by
  have hr : rp = 6 ∨ rp = 39 := hrp
  exact ⟨by rw [zu_o (by omega)]; exact h.1, by rw [zu_o (by omega)]; exact h.2.1, h.2.2.1, by rw [zu_o (by omega)]; exact h.2.2.2.1, yFl_u h.2.2.2.2 (Or.inr (Or.inr (Or.inr ⟨by omega, h2⟩)))⟩
end ZP
