/-! the parse of an E, as it is meant -/
theorem ytn_gt {P : Nat → Bool} {b : Nat → Nat} {n p : Nat} (h : p < n) (hP : P (b p) = true) : p < zrnx P b n n p := by
  obtain ⟨f, rfl⟩ : ∃ f, n = f + 1 := ⟨n - 1, by omega⟩
  have : zrnx P b (f + 1) (f + 1) p = if p < f + 1 ∧ P (b p) = true then zrnx P b (f + 1) f (p + 1) else p := rfl
  rw [this, if_pos ⟨h, hP⟩]
  exact (zrnx_b (P := P) (b := b) (n := f + 1) f (p + 1) (by omega)).1
theorem yt_f {b : Nat → Nat} {n i : Nat} (hb : ∀ j, j < n → b j < 256) (hi : i ≤ n) : zTp b n i ≤ n ∧ zTn b n i ≤ n ∧ (zkN b n i ≠ 0 → i < zTn b n i) ∧ zkN b n i < 40 ∧ (zkN b n i ≤ 16 ∨ 20 ≤ zkN b n i) ∧ zTv b n i < 2 ^ 30 ∧ zTk b n i = nI (zkN b n i) := by
  obtain ⟨w1, w2, w3⟩ := zrnx_b (P := zspc) (b := b) n i hi
  have uN : zTn b n i = if n ≤ zTp b n i then zTp b n i else if zsml (b (zTp b n i)) = true then zrnx zsml b n n (zTp b n i) else if zdig (b (zTp b n i)) = true then zrnx zdig b n n (zTp b n i) else (zSn b n (zTp b n i)).2 := rfl
  have uK : zkN b n i = if n ≤ zTp b n i then 0 else if zsml (b (zTp b n i)) = true then (if zrnx zsml b n n (zTp b n i) - zTp b n i ≤ 6 then (if zWx (zpv b (zTp b n i) (zrnx zsml b n n (zTp b n i) - zTp b n i)) 20 0 = 20 then 3 else 20 + zWx (zpv b (zTp b n i) (zrnx zsml b n n (zTp b n i) - zTp b n i)) 20 0) else 1) else if zdig (b (zTp b n i)) = true then 2 else (zSn b n (zTp b n i)).1 := rfl
  have uV : zTv b n i = if n ≤ zTp b n i then 0 else if zsml (b (zTp b n i)) = true then zpv b (zTp b n i) (zrnx zsml b n n (zTp b n i) - zTp b n i) else if zdig (b (zTp b n i)) = true then zcnv b (zTp b n i) (zrnx zdig b n n (zTp b n i) - zTp b n i) else 0 := rfl
  have uT : zTk b n i = if n ≤ zTp b n i then 0 else if zsml (b (zTp b n i)) = true then (if zrnx zsml b n n (zTp b n i) - zTp b n i ≤ 6 then (if zKw (zpv b (zTp b n i) (zrnx zsml b n n (zTp b n i) - zTp b n i)) = -1 then 3 else 20 + zKw (zpv b (zTp b n i) (zrnx zsml b n n (zTp b n i) - zTp b n i))) else 1) else if zdig (b (zTp b n i)) = true then 2 else nI (zSn b n (zTp b n i)).1 := rfl
  change i ≤ zTp b n i at w1
  change zTp b n i ≤ n at w2
  rw [uN, uK, uV, uT]
  generalize zTp b n i = p at *
  refine ⟨w2, ?_⟩
  by_cases c : n ≤ p
  · simp only [if_pos c]
    exact ⟨w2, fun h => absurd rfl h, by omega, by omega, by omega, rfl⟩
  simp only [if_neg c]
  by_cases cs : zsml (b p) = true
  · simp only [if_pos cs]
    obtain ⟨v1, v2, v3⟩ := zrnx_b (P := zsml) (b := b) n p w2
    have g := ytn_gt (n := n) (by omega) cs
    generalize zrnx zsml b n n p = q at *
    obtain ⟨m, rfl⟩ : ∃ m, q = p + m := ⟨q - p, by omega⟩
    rw [show p + m - p = m by omega]
    have hl : ∀ j, j < m → zsml (b (p + j)) = true := fun j hj => v3 (p + j) (by omega) (by omega)
    have hB := zpv_lt (b := b) (p := p) m hl
    refine ⟨v2, fun _ => by omega, ?_, ?_, hB, ?_⟩
    · have bx := zWx_b (x := zpv b p m) 20 0 (by omega)
      split
      · split <;> omega
      · omega
    · split
      · split <;> omega
      · omega
    · have ek : zKw (zpv b p m) = if zWx (zpv b p m) 20 0 = 20 then -1 else nI (zWx (zpv b p m) 20 0) := zKw_x hB 20 0 (by omega)
      have bx := zWx_b (x := zpv b p m) 20 0 (by omega)
      rw [ek]
      by_cases c6 : m ≤ 6
      · rw [if_pos c6, if_pos c6]
        by_cases c20 : zWx (zpv b p m) 20 0 = 20
        · rw [if_pos c20, if_pos c20, if_pos rfl]; rfl
        · rw [if_neg c20, if_neg c20, if_neg (fun z => nI_pos (n := zWx (zpv b p m) 20 0) (by omega) (by rw [z]; decide)), show (20 : Int32) = nI 20 from rfl, nI_add]
      · rw [if_neg c6, if_neg c6]; rfl
  simp only [if_neg cs]
  by_cases cd : zdig (b p) = true
  · simp only [if_pos cd]
    obtain ⟨v1, v2, v3⟩ := zrnx_b (P := zdig) (b := b) n p w2
    have g := ytn_gt (n := n) (by omega) cd
    have hB := zcnv_b b p (zrnx zdig b n n p - p) (fun j hj => v3 (p + j) (by omega) (by omega))
    exact ⟨v2, fun _ => by omega, by omega, by omega, by omega, rfl⟩
  simp only [if_neg cd]
  have hk : (zsk1 (b p) = 1 ∨ (4 ≤ zsk1 (b p) ∧ zsk1 (b p) ≤ 16)) := by
    by_cases c1 : zsk1 (b p) = 1
    · exact Or.inl c1
    · exact Or.inr ⟨(zsk1_r c1).1, (zsk1_r c1).2.1⟩
  have uS : zSn b n p = if b p = 60 ∧ p + 1 < n ∧ b (p + 1) = 61 then (8, p + 2) else if b p = 60 ∧ p + 1 < n ∧ b (p + 1) = 62 then (10, p + 2) else if b p = 62 ∧ p + 1 < n ∧ b (p + 1) = 61 then (11, p + 2) else (zsk1 (b p), p + 1) := rfl
  rw [uS]
  by_cases c1 : b p = 60 ∧ p + 1 < n ∧ b (p + 1) = 61
  · simp only [if_pos c1]; exact ⟨by omega, fun _ => by omega, by omega, by omega, by omega, trivial⟩
  by_cases c2 : b p = 60 ∧ p + 1 < n ∧ b (p + 1) = 62
  · simp only [if_neg c1, if_pos c2]; exact ⟨by omega, fun _ => by omega, by omega, by omega, by omega, trivial⟩
  by_cases c3 : b p = 62 ∧ p + 1 < n ∧ b (p + 1) = 61
  · simp only [if_neg c1, if_neg c2, if_pos c3]; exact ⟨by omega, fun _ => by omega, by omega, by omega, by omega, trivial⟩
  simp only [if_neg c1, if_neg c2, if_neg c3]
  exact ⟨by omega, fun _ => by omega, by omega, by omega, by omega, trivial⟩
/-- how a sign ranks -/
def yrk (k : Nat) : Nat := if k = 30 then 1 else if k = 31 then 2 else if k = 32 then 3 else if 7 ≤ k ∧ k ≤ 12 then 4 else if k = 13 ∨ k = 14 then 5 else if k = 15 ∨ k = 16 then 6 else 0
def ysub (x : Nat) : Nat := if x = 1 then 2 else if x = 2 then 3 else if x = 5 then 6 else 7
abbrev yR : Type := Except (Nat × Nat) (Nat × Nat × List (Nat × Nat))
/-- x: 1 E, 2 A, 3 B (with C), 5 S, 6 T, 7 P; 10 more: what comes behind the first one of it -/
def yPx (b : Nat → Nat) (n : Nat) : Nat → Nat → Nat → Nat → Nat → List (Nat × Nat) → yR
  | 0, _, _, _, _, _ => .error (0, 0)
  | f + 1, x, o, i, c, l =>
    if x = 3 then
      if zkN b n i = 32 then
        if c = 64 then .error (2, zTp b n i) else
        match yPx b n f 3 o (zTn b n i) (c + 1) l with
        | .error e => .error e
        | .ok r => .ok (r.1, r.2.1, r.2.2 ++ [(32, 0)])
      else
        match yPx b n f 5 o i c l with
        | .error e => .error e
        | .ok r =>
          if yrk (zkN b n r.1) = 4 then
            if r.2.1 = 64 then .error (2, zTp b n r.1) else
            match yPx b n f 5 o (zTn b n r.1) (r.2.1 + 1) r.2.2 with
            | .error e => .error e
            | .ok q => .ok (q.1, q.2.1, q.2.2 ++ [(zkN b n r.1, 0)])
          else .ok r
    else if x = 7 then
      if zkN b n i = 5 then
        if o = 8 then .error (2, zTp b n i) else
        match yPx b n f 1 (o + 1) (zTn b n i) c l with
        | .error e => .error e
        | .ok r => if zkN b n r.1 = 6 then .ok (zTn b n r.1, r.2.1, r.2.2) else .error (1, zTp b n r.1)
      else if zkN b n i = 2 then
        if 9999 < zTv b n i then .error (2, zTp b n i) else
        if c = 64 then .error (2, zTp b n i) else .ok (zTn b n i, c + 1, l ++ [(2, zTv b n i)])
      else if 33 ≤ zkN b n i then
        if c = 64 then .error (2, zTp b n i) else .ok (zTn b n i, c + 1, l ++ [(zkN b n i, zTv b n i)])
      else .error (1, zTp b n i)
    else if x < 10 then
      match yPx b n f (ysub x) o i c l with
      | .error e => .error e
      | .ok r => yPx b n f (x + 10) o r.1 r.2.1 r.2.2
    else
      if yrk (zkN b n i) = x - 10 then
        if c = 64 then .error (2, zTp b n i) else
        match yPx b n f (ysub (x - 10)) o (zTn b n i) (c + 1) l with
        | .error e => .error e
        | .ok r => yPx b n f x o r.1 r.2.1 (r.2.2 ++ [(zkN b n i, 0)])
      else .ok (i, c, l)
section YP
variable {b : Nat → Nat} {n f o i c x y : Nat} {l : List (Nat × Nat)} {e : Nat × Nat} {r q : Nat × Nat × List (Nat × Nat)}
def yBin (y : Nat) : Prop := y = 1 ∨ y = 2 ∨ y = 5 ∨ y = 6
theorem yB_ok (hy : yBin y) (h : yPx b n f (ysub y) o i c l = .ok r) : yPx b n (f + 1) y o i c l = yPx b n f (y + 10) o r.1 r.2.1 r.2.2 := by
  unfold yBin at hy
  conv => lhs; unfold yPx
  rw [if_neg (by omega), if_neg (by omega), if_pos (by omega), h]
theorem yB_er (hy : yBin y) (h : yPx b n f (ysub y) o i c l = .error e) : yPx b n (f + 1) y o i c l = .error e := by
  unfold yBin at hy
  conv => lhs; unfold yPx
  rw [if_neg (by omega), if_neg (by omega), if_pos (by omega), h]
theorem yL_no (hy : yBin y) (h : ¬ yrk (zkN b n i) = y) : yPx b n (f + 1) (y + 10) o i c l = .ok (i, c, l) := by
  unfold yBin at hy
  conv => lhs; unfold yPx
  rw [if_neg (by omega), if_neg (by omega), if_neg (by omega), if_neg (by omega)]
theorem yL_64 (hy : yBin y) (h : yrk (zkN b n i) = y) (h6 : c = 64) : yPx b n (f + 1) (y + 10) o i c l = .error (2, zTp b n i) := by
  unfold yBin at hy
  conv => lhs; unfold yPx
  rw [if_neg (by omega), if_neg (by omega), if_neg (by omega), if_pos (by omega), if_pos h6]
theorem yL_er (hy : yBin y) (h : yrk (zkN b n i) = y) (h6 : ¬ c = 64) (hs : yPx b n f (ysub y) o (zTn b n i) (c + 1) l = .error e) : yPx b n (f + 1) (y + 10) o i c l = .error e := by
  unfold yBin at hy
  conv => lhs; unfold yPx
  rw [if_neg (by omega), if_neg (by omega), if_neg (by omega), if_pos (by omega), if_neg h6, show y + 10 - 10 = y by omega, hs]
theorem yL_ok (hy : yBin y) (h : yrk (zkN b n i) = y) (h6 : ¬ c = 64) (hs : yPx b n f (ysub y) o (zTn b n i) (c + 1) l = .ok r) : yPx b n (f + 1) (y + 10) o i c l = yPx b n f (y + 10) o r.1 r.2.1 (r.2.2 ++ [(zkN b n i, 0)]) := by
  unfold yBin at hy
  conv => lhs; unfold yPx
  rw [if_neg (by omega), if_neg (by omega), if_neg (by omega), if_pos (by omega), if_neg h6, show y + 10 - 10 = y by omega, hs]
theorem yN_64 (h : zkN b n i = 32) (h6 : c = 64) : yPx b n (f + 1) 3 o i c l = .error (2, zTp b n i) := by
  conv => lhs; unfold yPx
  rw [if_pos rfl, if_pos h, if_pos h6]
theorem yN_er (h : zkN b n i = 32) (h6 : ¬ c = 64) (hs : yPx b n f 3 o (zTn b n i) (c + 1) l = .error e) : yPx b n (f + 1) 3 o i c l = .error e := by
  conv => lhs; unfold yPx
  rw [if_pos rfl, if_pos h, if_neg h6, hs]
theorem yN_ok (h : zkN b n i = 32) (h6 : ¬ c = 64) (hs : yPx b n f 3 o (zTn b n i) (c + 1) l = .ok r) : yPx b n (f + 1) 3 o i c l = .ok (r.1, r.2.1, r.2.2 ++ [(32, 0)]) := by
  conv => lhs; unfold yPx
  rw [if_pos rfl, if_pos h, if_neg h6, hs]
theorem yC_er (h : ¬ zkN b n i = 32) (hs : yPx b n f 5 o i c l = .error e) : yPx b n (f + 1) 3 o i c l = .error e := by
  conv => lhs; unfold yPx
  rw [if_pos rfl, if_neg h, hs]
theorem yC_no (h : ¬ zkN b n i = 32) (hs : yPx b n f 5 o i c l = .ok r) (hk : ¬ yrk (zkN b n r.1) = 4) : yPx b n (f + 1) 3 o i c l = .ok r := by
  conv => lhs; unfold yPx
  rw [if_pos rfl, if_neg h, hs]
  dsimp only
  rw [if_neg hk]
theorem yC_64 (h : ¬ zkN b n i = 32) (hs : yPx b n f 5 o i c l = .ok r) (hk : yrk (zkN b n r.1) = 4) (h6 : r.2.1 = 64) : yPx b n (f + 1) 3 o i c l = .error (2, zTp b n r.1) := by
  conv => lhs; unfold yPx
  rw [if_pos rfl, if_neg h, hs]
  dsimp only
  rw [if_pos hk, if_pos h6]
theorem yC_e2 (h : ¬ zkN b n i = 32) (hs : yPx b n f 5 o i c l = .ok r) (hk : yrk (zkN b n r.1) = 4) (h6 : ¬ r.2.1 = 64) (h2 : yPx b n f 5 o (zTn b n r.1) (r.2.1 + 1) r.2.2 = .error e) : yPx b n (f + 1) 3 o i c l = .error e := by
  conv => lhs; unfold yPx
  rw [if_pos rfl, if_neg h, hs]
  dsimp only
  rw [if_pos hk, if_neg h6, h2]
theorem yC_ok (h : ¬ zkN b n i = 32) (hs : yPx b n f 5 o i c l = .ok r) (hk : yrk (zkN b n r.1) = 4) (h6 : ¬ r.2.1 = 64) (h2 : yPx b n f 5 o (zTn b n r.1) (r.2.1 + 1) r.2.2 = .ok q) : yPx b n (f + 1) 3 o i c l = .ok (q.1, q.2.1, q.2.2 ++ [(zkN b n r.1, 0)]) := by
  conv => lhs; unfold yPx
  rw [if_pos rfl, if_neg h, hs]
  dsimp only
  rw [if_pos hk, if_neg h6, h2]
theorem yP_o8 (h : zkN b n i = 5) (h8 : o = 8) : yPx b n (f + 1) 7 o i c l = .error (2, zTp b n i) := by
  conv => lhs; unfold yPx
  rw [if_neg (by decide), if_pos rfl, if_pos h, if_pos h8]
theorem yP_oe (h : zkN b n i = 5) (h8 : ¬ o = 8) (hs : yPx b n f 1 (o + 1) (zTn b n i) c l = .error e) : yPx b n (f + 1) 7 o i c l = .error e := by
  conv => lhs; unfold yPx
  rw [if_neg (by decide), if_pos rfl, if_pos h, if_neg h8, hs]
theorem yP_on (h : zkN b n i = 5) (h8 : ¬ o = 8) (hs : yPx b n f 1 (o + 1) (zTn b n i) c l = .ok r) (hk : ¬ zkN b n r.1 = 6) : yPx b n (f + 1) 7 o i c l = .error (1, zTp b n r.1) := by
  conv => lhs; unfold yPx
  rw [if_neg (by decide), if_pos rfl, if_pos h, if_neg h8, hs]
  dsimp only
  rw [if_neg hk]
theorem yP_ok (h : zkN b n i = 5) (h8 : ¬ o = 8) (hs : yPx b n f 1 (o + 1) (zTn b n i) c l = .ok r) (hk : zkN b n r.1 = 6) : yPx b n (f + 1) 7 o i c l = .ok (zTn b n r.1, r.2.1, r.2.2) := by
  conv => lhs; unfold yPx
  rw [if_neg (by decide), if_pos rfl, if_pos h, if_neg h8, hs]
  dsimp only
  rw [if_pos hk]
theorem yP_n2 (h : zkN b n i = 2) (hv : 9999 < zTv b n i) : yPx b n (f + 1) 7 o i c l = .error (2, zTp b n i) := by
  conv => lhs; unfold yPx
  rw [if_neg (by decide), if_pos rfl, if_neg (by omega), if_pos h, if_pos hv]
theorem yP_n6 (h : zkN b n i = 2) (hv : ¬ 9999 < zTv b n i) (h6 : c = 64) : yPx b n (f + 1) 7 o i c l = .error (2, zTp b n i) := by
  conv => lhs; unfold yPx
  rw [if_neg (by decide), if_pos rfl, if_neg (by omega), if_pos h, if_neg hv, if_pos h6]
theorem yP_nk (h : zkN b n i = 2) (hv : ¬ 9999 < zTv b n i) (h6 : ¬ c = 64) : yPx b n (f + 1) 7 o i c l = .ok (zTn b n i, c + 1, l ++ [(2, zTv b n i)]) := by
  conv => lhs; unfold yPx
  rw [if_neg (by decide), if_pos rfl, if_neg (by omega), if_pos h, if_neg hv, if_neg h6]
theorem yP_m6 (h : 33 ≤ zkN b n i) (h6 : c = 64) : yPx b n (f + 1) 7 o i c l = .error (2, zTp b n i) := by
  conv => lhs; unfold yPx
  rw [if_neg (by decide), if_pos rfl, if_neg (by omega), if_neg (by omega), if_pos h, if_pos h6]
theorem yP_mk (h : 33 ≤ zkN b n i) (h6 : ¬ c = 64) : yPx b n (f + 1) 7 o i c l = .ok (zTn b n i, c + 1, l ++ [(zkN b n i, zTv b n i)]) := by
  conv => lhs; unfold yPx
  rw [if_neg (by decide), if_pos rfl, if_neg (by omega), if_neg (by omega), if_pos h, if_neg h6]
theorem yP_1 (h5 : ¬ zkN b n i = 5) (h2 : ¬ zkN b n i = 2) (h3 : ¬ 33 ≤ zkN b n i) : yPx b n (f + 1) 7 o i c l = .error (1, zTp b n i) := by
  conv => lhs; unfold yPx
  rw [if_neg (by decide), if_pos rfl, if_neg h5, if_neg h2, if_neg h3]
end YP
