/-! worlds begun and copied -/
def zCst (g n : Nat) (W V : Nat → Nat → Int32) : Nat → Nat → Int32 := fun g' k => if g' = g ∧ k < n then W g k else V g' k
def zCpW (W V : Nat → Nat → Int32) : Nat → Nat → Int32 := zu (zu (zu (zu (zCst 9 36 W (zCst 8 12 W (zCst 7 12 W (zCst 6 12 W (zCst 5 6 W (zCst 4 6 W (zCst 3 6 W (zCst 2 18 W (zCst 1 6 W (zu V 0 0 (W 0 0))))))))))) 0 11 (W 0 11)) 0 12 (W 0 12)) 0 13 (W 0 13)) 0 14 (W 0 14)
theorem vup_s {α : Type} {f : Nat → α} {k : Nat} {v : α} : va_up f k v k = v := if_pos rfl
theorem vup_n {α : Type} {f : Nat → α} {k j : Nat} {v : α} (h : j ≠ k) : va_up f k v j = f j := if_neg h
theorem zCst_n {g n g' k : Nat} {W V : Nat → Nat → Int32} (h : g' ≠ g) : zCst g n W V g' k = V g' k := if_neg (fun q => h q.1)
theorem zCst_s {g n k : Nat} {W V : Nat → Nat → Int32} (h : k < n) : zCst g n W V g k = W g k := if_pos ⟨rfl, h⟩
theorem zPW_cp {w0 w1 g n : Nat} {m : Int32} {V ia : Nat → Nat → Int32} (hg : g < 10) (hw : w1 + 10 ≤ w0 ∨ w0 + 10 ≤ w1) (hm : m.toNatClampNeg = n) : zcp (zPW w0 V ia) (w1 + g) (w0 + g) 0 0 m = zPW w0 (zCst g n (fun g => ia (w1 + g)) V) ia := by
  funext c k
  unfold zcp
  by_cases e : c = w0 + g
  · subst e
    rw [vup_s, zPW_g hg, zPW_g hg, zPW_o (by omega), hm]
    show va_cpy (ia (w1 + g)) (V g) 0 0 n k = _
    unfold va_cpy zCst
    by_cases e2 : k < n
    · rw [if_pos (by omega), if_pos ⟨rfl, e2⟩]
      congr 1
      omega
    · rw [if_neg (by omega), if_neg (fun q => e2 q.2)]
  · rw [vup_n e]
    by_cases e2 : w0 ≤ c ∧ c < w0 + 10
    · obtain ⟨q, rfl⟩ : ∃ q, c = w0 + q := ⟨c - w0, by omega⟩
      rw [zPW_g (by omega), zPW_g (by omega), zCst_n (by omega)]
    · rw [zPW_o (by omega), zPW_o (by omega)]
/-- the plan's begin, where V was -/
def zBeg (p : Nat → Nat → Int32) (N : Nat) (V : Nat → Nat → Int32) : Nat → Nat → Int32 := fun g k =>
  if g = 0 ∧ (k = 0 ∨ (11 ≤ k ∧ k ≤ 14)) then 0 else
  if g = 1 ∧ k < 6 then (if k < N then p 3 k else 0) else
  if g = 2 ∧ k < 3 * N then 1000 * p 2 k else
  if g = 3 ∧ k < 6 then -2 else
  if (g = 4 ∨ g = 5) ∧ k < 6 then 0 else
  if (6 ≤ g ∧ g ≤ 8) ∧ k < 12 then 0 else V g k
def zSb (N a b c : Nat) (z : Nat) (g k : Nat) : Prop := (g = 0 ∧ k = 0) ∨ (z = 1 ∧ g = 0 ∧ 11 ≤ k ∧ k ≤ 14) ∨ ((g = 1 ∨ g = 3 ∨ g = 4 ∨ g = 5) ∧ k < a) ∨ (g = 2 ∧ k < b) ∨ ((6 ≤ g ∧ g ≤ 8) ∧ k < c)
theorem zSb_a {N a b c z g k : Nat} (h : zSb N (a + 1) b c z g k) : zSb N a b c z g k ∨ ((g = 1 ∨ g = 3 ∨ g = 4 ∨ g = 5) ∧ k = a) := by
  rcases h with h | h | h | h | h
  · exact Or.inl (Or.inl h)
  · exact Or.inl (Or.inr (Or.inl h))
  · by_cases e : k = a
    · exact Or.inr ⟨h.1, e⟩
    · exact Or.inl (Or.inr (Or.inr (Or.inl ⟨h.1, by omega⟩)))
  · exact Or.inl (Or.inr (Or.inr (Or.inr (Or.inl h))))
  · exact Or.inl (Or.inr (Or.inr (Or.inr (Or.inr h))))
theorem zSb_b {N a b c z g k : Nat} (h : zSb N a (b + 1) c z g k) : zSb N a b c z g k ∨ (g = 2 ∧ k = b) := by
  rcases h with h | h | h | h | h
  · exact Or.inl (Or.inl h)
  · exact Or.inl (Or.inr (Or.inl h))
  · exact Or.inl (Or.inr (Or.inr (Or.inl h)))
  · by_cases e : k = b
    · exact Or.inr ⟨h.1, e⟩
    · exact Or.inl (Or.inr (Or.inr (Or.inr (Or.inl ⟨h.1, by omega⟩))))
  · exact Or.inl (Or.inr (Or.inr (Or.inr (Or.inr h))))
theorem zSb_c {N a b c z g k : Nat} (h : zSb N a b (c + 1) z g k) : zSb N a b c z g k ∨ ((6 ≤ g ∧ g ≤ 8) ∧ k = c) := by
  rcases h with h | h | h | h | h
  · exact Or.inl (Or.inl h)
  · exact Or.inl (Or.inr (Or.inl h))
  · exact Or.inl (Or.inr (Or.inr (Or.inl h)))
  · exact Or.inl (Or.inr (Or.inr (Or.inr (Or.inl h))))
  · by_cases e : k = c
    · exact Or.inr ⟨h.1, e⟩
    · exact Or.inl (Or.inr (Or.inr (Or.inr (Or.inr ⟨h.1, by omega⟩))))
theorem zSb_z {N a b c g k : Nat} (h : zSb N a b c 1 g k) : zSb N a b c 0 g k ∨ (g = 0 ∧ 11 ≤ k ∧ k ≤ 14) := by
  rcases h with h | h | h | h | h
  · exact Or.inl (Or.inl h)
  · exact Or.inr h.2
  · exact Or.inl (Or.inr (Or.inr (Or.inl h)))
  · exact Or.inl (Or.inr (Or.inr (Or.inr (Or.inl h))))
  · exact Or.inl (Or.inr (Or.inr (Or.inr (Or.inr h))))
theorem zbt_z {f : Nat → Int32} (h : ∀ i, i < 12 → f i = 0) : zbt f = 0 := by
  unfold zbt
  rw [zbm_e (g := fun _ => 0) 12 h]
  rfl
section ZP
variable {d pl dr N L T D s w w0 w1 p : Nat} {cp cw rp : Option Nat} {P ia ja G W V : Nat → Nat → Int32} {o : Nat → Int32} {r q bn : Int32} {la : Nat → Nat → Int64} {K : Option Value → zHP → Prop}
theorem zBeg_0 : zBeg P N V 0 0 = 0 := if_pos ⟨rfl, Or.inl rfl⟩
theorem zBeg_t {k : Nat} (h : 11 ≤ k ∧ k ≤ 14) : zBeg P N V 0 k = 0 := if_pos ⟨rfl, Or.inr h⟩
theorem zBeg_1 {k : Nat} (h : k < 6) : zBeg P N V 1 k = if k < N then P 3 k else 0 := by
  unfold zBeg
  rw [if_neg (by omega), if_pos ⟨rfl, h⟩]
theorem zBeg_2 {k : Nat} (h : k < 3 * N) : zBeg P N V 2 k = 1000 * P 2 k := by
  unfold zBeg
  rw [if_neg (by omega), if_neg (by omega), if_pos ⟨rfl, h⟩]
theorem zBeg_3 {k : Nat} (h : k < 6) : zBeg P N V 3 k = -2 := by
  unfold zBeg
  rw [if_neg (by omega), if_neg (by omega), if_neg (by omega), if_pos ⟨rfl, h⟩]
theorem zBeg_4 {k : Nat} (h : k < 6) : zBeg P N V 4 k = 0 := by
  unfold zBeg
  rw [if_neg (by omega), if_neg (by omega), if_neg (by omega), if_neg (by omega), if_pos ⟨Or.inl rfl, h⟩]
theorem zBeg_5 {k : Nat} (h : k < 6) : zBeg P N V 5 k = 0 := by
  unfold zBeg
  rw [if_neg (by omega), if_neg (by omega), if_neg (by omega), if_neg (by omega), if_pos ⟨Or.inr rfl, h⟩]
theorem zBeg_6 {g k : Nat} (hg : 6 ≤ g ∧ g ≤ 8) (h : k < 12) : zBeg P N V g k = 0 := by
  unfold zBeg
  rw [if_neg (by omega), if_neg (by omega), if_neg (by omega), if_neg (by omega), if_neg (by omega), if_pos ⟨hg, h⟩]
theorem zBeg_o {g k : Nat} (hN : N ≤ 6) (h : ¬ zSb N 6 (3 * N) 12 1 g k) : zBeg P N V g k = V g k := by
  unfold zSb at h
  unfold zBeg
  rw [if_neg (by omega), if_neg (by omega), if_neg (by omega), if_neg (by omega), if_neg (by omega), if_neg (by omega)]
theorem zWf_beg (hk : zPk P N L T) : zWf P N T 0 (zBeg P N V) := by
  have hN : N ≤ 6 := hk.2.1
  have hT : T ≤ 12 := hk.2.2.2.2.2.1
  have htr : ∀ i, i < 3 * N → ∃ a, a < 100 ∧ P 2 i = nI a := hk.2.2.2.2.2.2.2.2.2.2.2.2.1
  refine ⟨⟨zBeg_0, fun h hh => Or.inl ⟨zBeg_3 (by omega), zBeg_4 (by omega)⟩, fun h h1 h2 => ⟨by rw [zBeg_1 h2, if_neg (by omega)], zBeg_3 h2⟩, fun i hi => ?_⟩, ⟨fun k hk => ⟨Or.inl (zBeg_6 (by omega) hk), Or.inl (zBeg_6 (by omega) hk)⟩, ?_, ?_⟩, ⟨fun k hk => Or.inl (zBeg_6 (by omega) hk), ?_⟩⟩
  · obtain ⟨a, ha, e⟩ := htr i hi
    rw [zBeg_2 hi, e, show (1000 : Int32) = nI 1000 from rfl, pk_mul]
    exact ⟨1000 * a, by omega, rfl⟩
  · rw [zBeg_t (by omega), zcnt_0 _ 12 (fun i hi => by rw [zBeg_6 (by omega) hi]; rfl)]; rfl
  · rw [zBeg_t (by omega), zcnt_0 _ 12 (fun i hi => by rw [zBeg_6 (by omega) hi]; rfl)]; rfl
  · rw [zBeg_t (by omega), zcnt_0 _ 12 (fun i hi => by rw [zBeg_6 (by omega) hi]; rfl)]; rfl
theorem S_copyW (hw0 : zIsW w0) (hw1 : zIsW w1) (hw : w1 + 10 ≤ w0 ∨ w0 + 10 ≤ w1) : zWM (d + 5) 68 [.ref w0, .ref w1] (zPW w0 V ia, la, zRA pl dr cp cw rp) K = K none (zPW w0 (zCpW (fun g => ia (w1 + g)) V) ia, zu la w0 1 (la w1 1), zRA pl dr cp cw rp) := by
  have c0 : ∀ X, zPW w0 X ia w1 = ia w1 := fun X => zPW_o (by omega)
  have c1 : ∀ X, zcp (zPW w0 X ia) (w1 + 1) (w0 + 1) 0 0 6 = zPW w0 (zCst 1 6 (fun g => ia (w1 + g)) X) ia := fun X => zPW_cp (by omega) hw rfl
  have c2 : ∀ X, zcp (zPW w0 X ia) (w1 + 2) (w0 + 2) 0 0 18 = zPW w0 (zCst 2 18 (fun g => ia (w1 + g)) X) ia := fun X => zPW_cp (by omega) hw rfl
  have c3 : ∀ X, zcp (zPW w0 X ia) (w1 + 3) (w0 + 3) 0 0 6 = zPW w0 (zCst 3 6 (fun g => ia (w1 + g)) X) ia := fun X => zPW_cp (by omega) hw rfl
  have c4 : ∀ X, zcp (zPW w0 X ia) (w1 + 4) (w0 + 4) 0 0 6 = zPW w0 (zCst 4 6 (fun g => ia (w1 + g)) X) ia := fun X => zPW_cp (by omega) hw rfl
  have c5 : ∀ X, zcp (zPW w0 X ia) (w1 + 5) (w0 + 5) 0 0 6 = zPW w0 (zCst 5 6 (fun g => ia (w1 + g)) X) ia := fun X => zPW_cp (by omega) hw rfl
  have c6 : ∀ X, zcp (zPW w0 X ia) (w1 + 6) (w0 + 6) 0 0 12 = zPW w0 (zCst 6 12 (fun g => ia (w1 + g)) X) ia := fun X => zPW_cp (by omega) hw rfl
  have c7 : ∀ X, zcp (zPW w0 X ia) (w1 + 7) (w0 + 7) 0 0 12 = zPW w0 (zCst 7 12 (fun g => ia (w1 + g)) X) ia := fun X => zPW_cp (by omega) hw rfl
  have c8 : ∀ X, zcp (zPW w0 X ia) (w1 + 8) (w0 + 8) 0 0 12 = zPW w0 (zCst 8 12 (fun g => ia (w1 + g)) X) ia := fun X => zPW_cp (by omega) hw rfl
  have c9 : ∀ X, zcp (zPW w0 X ia) (w1 + 9) (w0 + 9) 0 0 36 = zPW w0 (zCst 9 36 (fun g => ia (w1 + g)) X) ia := fun X => zPW_cp (by omega) hw rfl
  rw [e68, b68_0 hw0 hw1]
  simp only [zPW_u0, c0, c1, c2, c3, c4, c5, c6, c7, c8, c9]
  rfl
theorem S_begin (hw : zIsW w) (hp : zIsP p) (hk : zPk (fun g => ia (p + g)) N L T) : zWM d 67 [.ref w, .ref p] (zPW w V ia, la, zRA pl dr cp cw rp) K = K none (zPW w (zBeg (fun g => ia (p + g)) N V) ia, zu la w 1 (ia (p + 28) 2).toInt64, zRA pl dr cp cw rp) := by
  have hN : N ≤ 6 := hk.2.1
  have eN : ia p 1 = nI N := hk.1
  have hq : zkd (w + 1) = 100 ∧ zln (w + 1) = 6 := by rcases hw with h | h | h <;> subst h <;> exact ⟨rfl, rfl⟩
  generalize hG : zBeg (fun g => ia (p + g)) N V = G
  have g0 : G 0 0 = 0 := by rw [← hG]; exact zBeg_0
  have g1 : ∀ k, k < 6 → G 1 k = if k < N then ia (p + 3) k else 0 := fun k h => by rw [← hG]; exact zBeg_1 h
  have g2 : ∀ k, k < 3 * N → G 2 k = 1000 * ia (p + 2) k := fun k h => by rw [← hG]; exact zBeg_2 h
  have g3 : ∀ k, k < 6 → G 3 k = -2 := fun k h => by rw [← hG]; exact zBeg_3 h
  have g4 : ∀ k, k < 6 → G 4 k = 0 := fun k h => by rw [← hG]; exact zBeg_4 h
  have g5 : ∀ k, k < 6 → G 5 k = 0 := fun k h => by rw [← hG]; exact zBeg_5 h
  have g6 : ∀ g k, 6 ≤ g ∧ g ≤ 8 → k < 12 → G g k = 0 := fun g k hg h => by rw [← hG]; exact zBeg_6 hg h
  have gt : ∀ k, 11 ≤ k ∧ k ≤ 14 → G 0 k = 0 := fun k h => by rw [← hG]; exact zBeg_t h
  have go : ∀ g k, ¬ zSb N 6 (3 * N) 12 1 g k → G g k = V g k := fun g k h => by rw [← hG]; exact zBeg_o hN h
  rw [e67, b67_0 hw hp, zPW_u0, zPW_p hw hp (by omega)]
  generalize zu la w 1 (ia (p + 28) 2).toInt64 = la2
  have l3 : ∀ (n l : Nat) (X : Nat → Nat → Int32), l + n = 12 → zQ G V (zSb N 6 (3 * N) l 0) X → zWP d 67 112 [some (.ref w), some (.ref p), some (.int (nI l))] [] (zPW w X ia, la2, zRA pl dr cp cw rp) K = K none (zPW w G ia, la2, zRA pl dr cp cw rp) := by
    intro n
    induction n with
    | zero =>
      intro l X hl hQ
      rw [b67_112 hw hp, if_pos (by rw [show l = 12 by omega]; decide), zPW_u0, zPW_u0, zPW_u0, zPW_u0]
      have e : zu (zu (zu (zu X 0 11 0) 0 12 0) 0 13 0) 0 14 0 = G := by
        have e12 : l = 12 := by omega
        subst e12
        refine zQ_end (S := zSb N 6 (3 * N) 12 1) (zQ_u (S := fun g k => zSb N 6 (3 * N) 12 0 g k ∨ g = 0 ∧ 11 ≤ k ∧ k ≤ 13) (zQ_u (S := fun g k => zSb N 6 (3 * N) 12 0 g k ∨ g = 0 ∧ 11 ≤ k ∧ k ≤ 12) (zQ_u (S := fun g k => zSb N 6 (3 * N) 12 0 g k ∨ g = 0 ∧ k = 11) (zQ_u (S := zSb N 6 (3 * N) 12 0) hQ ?_ ?_) ?_ ?_) ?_ ?_) ?_ ?_) go
        · rw [gt _ (by omega)]
        · intro c k q; exact q
        · rw [gt _ (by omega)]
        · intro c k q; exact zst1 (fun z => by omega) q
        · rw [gt _ (by omega)]
        · intro c k q; exact zst1 (fun z => by omega) q
        · rw [gt _ (by omega)]
        · intro c k q; exact zst1 (fun z => by omega) (zSb_z q)
      rw [e]
    | succ n ih =>
      intro l X hl hQ
      rw [b67_112 hw hp, if_neg (z12le (by omega)), zg (by omega) (by omega), zcln (by omega), zPW_u (by omega), zPW_u (by omega), zPW_u (by omega), ns]
      refine ih (l + 1) _ (by omega) ?_
      refine zQ_u (S := fun g k => zSb N 6 (3 * N) l 0 g k ∨ (6 ≤ g ∧ g ≤ 7) ∧ k = l) (zQ_u (S := fun g k => zSb N 6 (3 * N) l 0 g k ∨ g = 6 ∧ k = l) (zQ_u (S := zSb N 6 (3 * N) l 0) hQ ?_ ?_) ?_ ?_) ?_ ?_
      · rw [g6 _ _ (by omega) (by omega)]
      · intro c k q; exact q
      · rw [g6 _ _ (by omega) (by omega)]
      · intro c k q; exact zst1 (fun z => by omega) q
      · rw [g6 _ _ (by omega) (by omega)]
      · intro c k q; exact zst1 (fun z => by omega) (zSb_c q)
  have l2 : ∀ (n i : Nat) (X : Nat → Nat → Int32), i + n = 3 * N → zQ G V (zSb N 6 i 0 0) X → zWP d 67 78 [some (.ref w), some (.ref p), some (.int (nI i))] [] (zPW w X ia, la2, zRA pl dr cp cw rp) K = K none (zPW w G ia, la2, zRA pl dr cp cw rp) := by
    intro n
    induction n with
    | zero =>
      intro i X hi hQ
      have e3 : i = 3 * N := by omega
      subst e3
      rw [b67_78 hw hp, zPW_p0 hw hp, eN, n3', if_pos (nI_le1 (by omega) (by omega))]
      exact l3 12 0 X (by omega) hQ
    | succ n ih =>
      intro i X hi hQ
      rw [b67_78 hw hp, zPW_p0 hw hp, eN, n3', if_neg (nI_nle1 (by omega) (by omega)), zg (by omega) (by omega), zcln (by omega), zPW_p hw hp (by omega), zPW_u (by omega), ns]
      refine ih (i + 1) _ (by omega) (zQ_u hQ (g2 i (by omega)).symm (fun c k q => zSb_b q))
  have l1 : ∀ (n i : Nat) (X : Nat → Nat → Int32), i + n = 6 → zQ G V (zSb N i 0 0 0) X → zWP d 67 18 [some (.ref w), some (.ref p), some (.int (nI i))] [] (zPW w X ia, la2, zRA pl dr cp cw rp) K = K none (zPW w G ia, la2, zRA pl dr cp cw rp) := by
    intro n
    induction n with
    | zero =>
      intro i X hi hQ
      have e3 : i = 6 := by omega
      subst e3
      rw [b67_18 hw hp, if_pos (by decide)]
      exact l2 (3 * N) 0 X (by omega) hQ
    | succ n ih =>
      intro i X hi hQ
      have st : ∀ v : Int32, v = G 1 i → zWP d 67 47 [some (.ref w), some (.ref p), some (.int (nI i))] [.int v, .int (nI i), .ref (w + 1)] (zPW w X ia, la2, zRA pl dr cp cw rp) K = K none (zPW w G ia, la2, zRA pl dr cp cw rp) := by
        intro v hv
        rw [b67_47 hw hp, hq.1, hq.2, zdrop ⟨rfl, zvi (by omega) (by omega)⟩, zg (by omega) (by omega), zcln (by omega), zPW_u (by omega), zPW_u (by omega), zPW_u (by omega), zPW_u (by omega), ns]
        refine ih (i + 1) _ (by omega) ?_
        refine zQ_u (S := fun g k => zSb N i 0 0 0 g k ∨ (g = 1 ∨ g = 3 ∨ g = 4) ∧ k = i) (zQ_u (S := fun g k => zSb N i 0 0 0 g k ∨ (g = 1 ∨ g = 3) ∧ k = i) (zQ_u (S := fun g k => zSb N i 0 0 0 g k ∨ g = 1 ∧ k = i) (zQ_u (S := zSb N i 0 0 0) hQ hv ?_) ?_ ?_) ?_ ?_) ?_ ?_
        · intro c k q; exact q
        · rw [g3 _ (by omega)]
        · intro c k q; exact zst1 (fun z => by omega) q
        · rw [g4 _ (by omega)]
        · intro c k q; exact zst1 (fun z => by omega) q
        · rw [g5 _ (by omega)]
        · intro c k q; exact zst1 (fun z => by omega) (zSb_a q)
      rw [b67_18 hw hp, if_neg (z6le (by omega)), zPW_p0 hw hp, eN, zg (by omega) (by omega), zcln (by omega), zPW_p hw hp (by omega)]
      by_cases c : N ≤ i
      · rw [if_pos (nI_le1 c (by omega))]
        exact st 0 (by rw [g1 i (by omega), if_neg (by omega)])
      · rw [if_neg (nI_nle1 (by omega) (by omega))]
        exact st _ (by rw [g1 i (by omega), if_pos (by omega)])
  exact l1 6 0 _ (by omega) (zQ_u zQ_0 g0.symm (fun c k q => by rcases q with h | h | h | h | h <;> omega))
theorem S_starts (hs : s < 23) (hk : zPk P N L T) (hR : zPR P ia N L T) : zWM d 168 [.ref 127, .int (nI s)] (ia, la, zRA pl dr cp cw rp) K = K none (zPM N s (zBeg P N V) (P 28 2) ia, la, zRA pl dr cp cw rp) := by
  have hN : N ≤ 6 := hk.2.1
  have hG : zHas N s (zBeg P N V) (P 28 2) (zPM N s (zBeg P N V) (P 28 2) ia) := zHas_M
  have hout : ∀ c k, ¬ zSd s 6 0 12 36 c k → zPM N s (zBeg P N V) (P 28 2) ia c k = ia c k := fun c k q => zPM_out (by unfold zSd at q; unfold zIn; omega)
  have hlow : ∀ c k, c < 147 → zPM N s (zBeg P N V) (P 28 2) ia c k = ia c k := fun c k hc => by rw [zPM_o (by omega)]
  generalize zPM N s (zBeg P N V) (P 28 2) ia = G at hG hout hlow ⊢
  obtain ⟨g7, g8, g9, g0, g1, g2, g3, g57, g58⟩ := hG
  rw [zBeg_0] at g7
  rw [zBeg_t (by omega)] at g9
  rw [zbt_z (fun i hi => zBeg_6 (by omega) hi)] at g0 g1
  have low : ∀ S ja, zQ G ia S ja → ∀ c, c < 147 → ja c = ia c := by
    intro S ja h c hc
    funext k
    rcases h.1 c k with q | q
    · exact q
    · rw [q, hlow c k hc]
  have l2 : ∀ (n l : Nat) (ja : Nat → Nat → Int32) (a3 a4 a5 : Option Value), l + n = 12 → zQ G ia (zSd s 6 0 l (3 * l)) ja → zWP d 168 172 [some (.ref 127), some (.int (nI s)), some (.int (nI l)), a3, a4, a5] [] (ja, la, zRA pl dr cp cw rp) K = K none (G, la, zRA pl dr cp cw rp) := by
    intro n
    induction n with
    | zero =>
      intro l ja a3 a4 a5 hl hQ
      rw [b168_172, if_pos (by rw [show l = 12 by omega]; decide)]
      rw [zQ_end hQ (fun c k q => hout c k (fun z => q (by rw [show l = 12 by omega]; exact z)))]
    | succ n ih =>
      intro l ja a3 a4 a5 hl hQ
      rw [b168_172, if_neg (z12le (by omega)), m12, zg (by omega) (by omega), zcln (by omega)]
      have q1 : zQ G ia (zSd s 6 0 (l + 1) (3 * l)) (zu ja 157 (12 * s + l) 0) := zQ_u hQ (by rw [g57 l (by omega), zBeg_6 (by omega) (by omega)]) (fun c k q => zSd_7 q)
      generalize zu ja 157 (12 * s + l) 0 = ja1 at q1 ⊢
      have st : ∀ (j : Nat) (ja : Nat → Nat → Int32), j < 3 → zQ G ia (zSd s 6 0 (l + 1) (3 * l + j)) ja → ∃ jb, zQ G ia (zSd s 6 0 (l + 1) (3 * l + j + 1)) jb ∧ zWP d 168 192 [some (.ref 127), some (.int (nI s)), some (.int (nI l)), some (.int (nI j)), a4, a5] [] (ja, la, zRA pl dr cp cw rp) K = zWP d 168 192 [some (.ref 127), some (.int (nI s)), some (.int (nI l)), some (.int (nI (j + 1))), a4, a5] [] (jb, la, zRA pl dr cp cw rp) K := by
        intro j ja hj hQ
        refine ⟨zu ja 158 (36 * s + (3 * l + j)) (-2), zQ_u hQ (by rw [g58 _ (by omega), zBeg_6 (by omega) (by omega), if_pos rfl]) (fun c k q => zSd_8 q), ?_⟩
        rw [b168_192, if_neg (z3le hj), m12, m3, zg (by omega) (by omega), zcln (by omega), ns, show 3 * (12 * s + l) + j = 36 * s + (3 * l + j) by omega]
      obtain ⟨jb, q2, e2⟩ := st 0 ja1 (by omega) q1
      obtain ⟨jc, q3, e3⟩ := st 1 jb (by omega) q2
      obtain ⟨jd, q4, e4⟩ := st 2 jc (by omega) q3
      refine Eq.trans e2 ?_
      rw [e3, e4, b168_192, if_pos (by decide), ns]
      exact ih (l + 1) jd _ _ _ (by omega) q4
  have l1 : ∀ (n p : Nat) (ja : Nat → Nat → Int32) (a3 a4 a5 : Option Value), p + n = 6 → zQ G ia (zSd s p 0 0 0) ja → zWP d 168 42 [some (.ref 127), some (.int (nI s)), some (.int (nI p)), a3, a4, a5] [] (ja, la, zRA pl dr cp cw rp) K = K none (G, la, zRA pl dr cp cw rp) := by
    intro n
    induction n with
    | zero =>
      intro p ja a3 a4 a5 hp hQ
      have e6 : p = 6 := by omega
      subst e6
      rw [b168_42, if_pos (by decide)]
      exact l2 12 0 ja _ _ _ (by omega) hQ
    | succ n ih =>
      intro p ja a3 a4 a5 hp hQ
      rw [b168_42, if_neg (z6le (by omega)), low _ _ hQ 129 (by decide), hR.1, m6]
      have st : ∀ (j : Nat) (ja : Nat → Nat → Int32), j < 3 → zQ G ia (zSd s p j 0 0) ja → ∃ jb, zQ G ia (zSd s p (j + 1) 0 0) jb ∧ zWP d 168 75 [some (.ref 127), some (.int (nI s)), some (.int (nI p)), some (.int (nI (6 * s + p))), some (.int (if p < N then 1 else 0)), some (.int (nI j))] [] (ja, la, zRA pl dr cp cw rp) K = zWP d 168 75 [some (.ref 127), some (.int (nI s)), some (.int (nI p)), some (.int (nI (6 * s + p))), some (.int (if p < N then 1 else 0)), some (.int (nI (j + 1)))] [] (jb, la, zRA pl dr cp cw rp) K := by
        intro j ja hj hQ
        rw [b168_75, if_neg (z3le hj), m3, m3, zg (by omega) (by omega), zg (by omega) (by omega), zcln (by omega), zcln (by omega), ns, show 3 * (6 * s + p) + j = 18 * s + (3 * p + j) by omega]
        by_cases c : p < N
        · rw [if_pos c, if_neg (by decide), low _ _ hQ 131 (by decide), hR.2.2.2.2.2.2.2.2.1 _ (by omega), zg (by omega) (by omega)]
          exact ⟨zu ja 152 (18 * s + (3 * p + j)) (1000 * P 2 (3 * p + j)), zQ_u hQ (by rw [g2 _ (by omega), if_pos (by omega), zBeg_2 (by omega)]) (fun c k q => zSd_2 q), rfl⟩
        · rw [if_neg c, if_pos rfl]
          exact ⟨zu ja 152 (18 * s + (3 * p + j)) 0, zQ_u hQ (by rw [g2 _ (by omega), if_neg (by omega)]) (fun c k q => zSd_2 q), rfl⟩
      have ent : (if nI N ≤ nI p then zWP d 168 75 [some (.ref 127), some (.int (nI s)), some (.int (nI p)), some (.int (nI (6 * s + p))), some (.int 0), some (.int 0)] [] (ja, la, zRA pl dr cp cw rp) K else zWP d 168 75 [some (.ref 127), some (.int (nI s)), some (.int (nI p)), some (.int (nI (6 * s + p))), some (.int 1), some (.int 0)] [] (ja, la, zRA pl dr cp cw rp) K) = zWP d 168 75 [some (.ref 127), some (.int (nI s)), some (.int (nI p)), some (.int (nI (6 * s + p))), some (.int (if p < N then 1 else 0)), some (.int (nI 0))] [] (ja, la, zRA pl dr cp cw rp) K := by
        by_cases c : p < N
        · rw [if_neg (nI_nle1 c (by omega)), if_pos c]; rfl
        · rw [if_pos (nI_le1 (by omega) (by omega)), if_neg c]; rfl
      obtain ⟨jb, q2, e2⟩ := st 0 ja (by omega) hQ
      obtain ⟨jc, q3, e3⟩ := st 1 jb (by omega) q2
      obtain ⟨jd, q4, e4⟩ := st 2 jc (by omega) q3
      refine Eq.trans ent (Eq.trans e2 ?_)
      obtain ⟨y3, y4, y5, y6⟩ := g3 p (by omega)
      rw [zBeg_3 (by omega)] at y3
      rw [zBeg_4 (by omega)] at y4
      rw [zBeg_5 (by omega)] at y5
      rw [zBeg_1 (by omega)] at y6
      have fin : ∀ v : Int32, v = G 156 (6 * s + p) → zQ G ia (zSd s (p + 1) 0 0 0) (zu (zu (zu (zu jd 153 (6 * s + p) (-1)) 154 (6 * s + p) 0) 155 (6 * s + p) 0) 156 (6 * s + p) v) := by
        intro v hv
        refine zQ_u (S := fun c k => zSd s p 3 0 0 c k ∨ (153 ≤ c ∧ c ≤ 155 ∧ k = 6 * s + p)) (zQ_u (S := fun c k => zSd s p 3 0 0 c k ∨ (153 ≤ c ∧ c ≤ 154 ∧ k = 6 * s + p)) (zQ_u (S := fun c k => zSd s p 3 0 0 c k ∨ (c = 153 ∧ k = 6 * s + p)) (zQ_u q4 ?_ ?_) ?_ ?_) ?_ ?_) hv ?_
        · rw [y3]; rfl
        · intro c k q; exact q
        · rw [y4]
        · intro c k q; exact zst1 (fun z => by omega) q
        · rw [y5]
        · intro c k q; exact zst1 (fun z => by omega) q
        · intro c k q; exact zst1 (fun z => by omega) (zSd_3 q)
      rw [e3, e4, b168_75, if_pos (show (3 : Int32) ≤ nI 3 by decide), zg (by omega) (by omega), zg (by omega) (by omega), zcln (by omega), zcln (by omega), ns]
      by_cases c : p < N
      · rw [if_pos c] at y6 ⊢
        rw [if_neg (by decide)]
        refine ih (p + 1) _ _ _ _ (by omega) (fin _ ?_)
        rw [zu_o (by decide), zu_o (by decide), zu_o (by decide), low _ _ q4 132 (by decide), hR.2.2.2.2.2.2.2.2.2.1 p c, y6]
      · rw [if_neg c] at y6 ⊢
        rw [if_pos rfl]
        exact ih (p + 1) _ _ _ _ (by omega) (fin _ y6.symm)
  rw [e168, b168_0, zg (by omega) (by omega), zcln (by omega), zu_o (show (129 : Nat) ≠ 147 by decide), hR.2.2.2.2.2.1]
  refine l1 6 0 _ none none none (by omega) ?_
  refine zQ_u (S := fun c k => 147 ≤ c ∧ c ≤ 150 ∧ k = s) (zQ_u (S := fun c k => 147 ≤ c ∧ c ≤ 149 ∧ k = s) (zQ_u (S := fun c k => 147 ≤ c ∧ c ≤ 148 ∧ k = s) (zQ_u (S := fun c k => c = 147 ∧ k = s) (zQ_u zQ_0 ?_ ?_) ?_ ?_) ?_ ?_) ?_ ?_) ?_ ?_
  · exact g7.symm
  · intro c k q; exact Or.inr q
  · exact g8.symm
  · intro c k q; omega
  · exact g9.symm
  · intro c k q; omega
  · exact g0.symm
  · intro c k q; omega
  · exact g1.symm
  · intro c k q; have := zSd_0 q; omega
end ZP
