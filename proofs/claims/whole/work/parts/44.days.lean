/-! the class's days -/
section ZP
variable {d pl dr p w N L T : Nat} {cp cw rp : Option Nat} {ia W : Nat → Nat → Int32} {la : Nat → Nat → Int64} {K : Option Value → zHP → Prop}
theorem zu_id {α : Type} (f : Nat → Nat → α) (o k : Nat) : zu f o k (f o k) = f := by
  funext a b
  rw [zu_at]
  by_cases h : a = o ∧ b = k
  · rw [if_pos h, h.1, h.2]
  · rw [if_neg h]
theorem S_looks (hw : zIsW w) (hp : zIsP p) : zWM (d + 1) 7 [.ref 102] (zPW w W ia, la, zRA pl dr (some p) (some w) rp) K = K (some (.int (zBk (fun g => ia (p + g)) (ia 102) (la w 1)).1)) (zPW w W ia, zu la w 1 (zBk (fun g => ia (p + g)) (ia 102) (la w 1)).2, zRA pl dr (some p) (some w) rp) := by
  rw [e7, b7_0 hp hw, zPW_102 hw (by omega), zPW_p hw hp (by omega), e73, b73_0 hw, kS, b7_73]
  unfold zBk
  dsimp only
  by_cases c1 : ia 102 3 = 1
  · simp only [c1, if_true, zu_id, zKifI]
  · simp only [c1, if_false]
    by_cases c2 : ia 102 3 = 2
    · simp only [c2, if_true, zu_id]
    · simp only [c2, if_false]
      by_cases c3 : ia 102 3 = 3
      · simp only [c3, if_true, zu_id]
      · simp only [c3, if_false]
        by_cases c4 : ia (p + 28) 1 = 100
        · simp only [c4, if_true, zu_id]
        · simp only [c4, if_false]
          by_cases c5 : ia (p + 28) 1 ≤ 0
          · simp only [c5, if_true, zu_id]
          · simp only [c5, if_false, zu_eq, zKifI]
theorem S_find (hw : zIsW w) (hp : zIsP p) (hk : zPk (fun g => ia (p + g)) N L T) (hK : ∀ la', zL5 la la' → K none (zPW w (zit (zFind (fun g => ia (p + g)) (ia 102)) T W) ia, la', zRA pl dr (some p) (some w) rp)) : zWM (d + 6) 8 [.ref 102] (zPW w W ia, la, zRA pl dr (some p) (some w) rp) K := by
  obtain ⟨_, hN, _, _, eT, hT, _, ht, hlk, _⟩ := hk
  dsimp only at eT ht
  rw [e8, b8_0]
  refine zlpI (fun i => ∀ la' a2 a3 a4, zL5 la la' → zWP (d + 6) 8 2 [some (.ref 102), some (.int (nI i)), a2, a3, a4] [] (zPW w (zit (zFind (fun g => ia (p + g)) (ia 102)) i W) ia, la', zRA pl dr (some p) (some w) rp) K) T ?_ ?_ la none none none (zL5_r la)
  · intro i hi ih la' a2 a3 a4 h5
    obtain ⟨b, h, t, hb, hh, h100, q0, q1, q2⟩ := ht i (by omega)
    rw [show zit (zFind (fun g => ia (p + g)) (ia 102)) (i + 1) W = zFind (fun g => ia (p + g)) (ia 102) i (zit (zFind (fun g => ia (p + g)) (ia 102)) i W) from rfl] at ih
    generalize zit (zFind (fun g => ia (p + g)) (ia 102)) i W = V at ih ⊢
    rw [b8_2 hp hw, zPW_p0 hw hp, show ia p 3 = nI T from eT, if_neg (nI_nle1 (by omega) (by omega)), zg (by omega) (by omega), zcln (by omega), Nat.add_assoc, zPW_p hw hp (by omega), zPW_0, zPW_g (by omega), ns, zPW_u (by omega), zPW_0, zPW_u0, zPW_p hw hp (by omega)]
    unfold zFind at ih
    dsimp only at ih
    simp only [q0, q1, zct_n (show h < 100000 by omega), zct_n (show b < 100000 by omega)] at ih
    by_cases c1 : ia (p + (16 + i)) 2 = V 0 0
    · rw [if_neg (fun q => q c1)]
      rw [if_neg (fun q => q c1)] at ih
      by_cases c2 : V 6 i = 2
      · rw [if_neg (fun q => q c2)]
        rw [if_neg (fun q => q c2)] at ih
        rw [q0, q1]
        refine S_bnd (r := 2) hp hw (by omega) (by omega) (by omega) hlk (fun la2 h6 => ?_)
        rw [kS, b8_86 hw, zg (by omega) (by omega), ns, zcln (by omega), zPW_g (by omega), zPW_u (by omega)]
        exact ih _ _ _ _ (zL5_t h5 h6)
      · rw [if_pos c2]
        rw [if_pos c2] at ih
        exact ih _ _ _ _ h5
    · rw [if_pos c1]
      rw [if_pos c1] at ih
      exact ih _ _ _ _ h5
  · intro la' a2 a3 a4 h5
    rw [b8_2 hp hw, zPW_p0 hw hp, show ia p 3 = nI T from eT, if_pos (nI_le1 (by omega) (by omega))]
    exact hK la' h5
theorem S_back {h t : Nat} (hw : zIsW w) (hp : zIsP p) (hlk : zLk (fun g => ia (p + g))) (hh : h < 6) (ht : t < 6) (et : W 3 h = nI t) (hK : ∀ la', zL5 la la' → K none (zPW w (zBack (fun g => ia (p + g)) (ia 102) h W) ia, la', zRA pl dr (some p) (some w) rp)) : zWM (d + 6) 9 [.ref 102, .int (nI h)] (zPW w W ia, la, zRA pl dr (some p) (some w) rp) K := by
  rw [e9, b9_0 hw, zg (by omega) (by omega), zcln (by omega), zPW_g (by omega), et]
  refine S_bnd (r := 1) hp hw (by omega) (by omega) (by omega) hlk (fun la2 h6 => ?_)
  have hK2 := hK la2 h6
  unfold zBack at hK2
  rw [et, zct_n (by omega)] at hK2
  rw [kS, b9_18]
  generalize zBnd (fun g => ia (p + g)) (ia 102) W 1 h t 0 = turn at hK2 ⊢
  have lp : ∀ (j : Nat) (V : Nat → Nat → Int32) (a5 a6 : Option Value), j < 3 → zWP (d + 6) 9 22 [some (.ref 102), some (.int (nI h)), some (.int (nI t)), some (.int turn), some (.int (nI j)), a5, a6] [] (zPW w V ia, la2, zRA pl dr (some p) (some w) rp) K = zWP (d + 6) 9 22 [some (.ref 102), some (.int (nI h)), some (.int (nI t)), some (.int turn), some (.int (nI (j + 1))), some (.int (nI (3 * h + j))), some (.int (1000 * ia (p + 2) (3 * t + j) - V 2 (3 * h + j)))] [] (zPW w (zBk1 (fun g => ia (p + g)) h t turn j V) ia, la2, zRA pl dr (some p) (some w) rp) K := by
    intro j V a5 a6 hj
    rw [b9_22 hp hw, if_neg (z3le hj), n3, n3, zg (by omega) (by omega), zg (by omega) (by omega), zcln (by omega), zcln (by omega), zPW_g (by omega), zPW_p hw hp (by omega), zPW_u (by omega), ns]
    rfl
  rw [show zWP (d + 5 + 1) 9 22 [some (.ref 102), some (.int (nI h)), some (.int (nI t)), some (.int turn), some (.int 0), none, none] [] (zPW w W ia, la2, zRA pl dr (some p) (some w) rp) K = zWP (d + 6) 9 22 [some (.ref 102), some (.int (nI h)), some (.int (nI t)), some (.int turn), some (.int (nI 0)), none, none] [] (zPW w W ia, la2, zRA pl dr (some p) (some w) rp) K from rfl]
  rw [lp 0 _ _ _ (by omega), lp 1 _ _ _ (by omega), lp 2 _ _ _ (by omega)]
  rw [b9_22 hp hw, if_pos (by decide), zg (by omega) (by omega), zcln (by omega), zPW_u (by omega), zPW_u (by omega), zPW_g (by omega), zPW_u (by omega)]
  exact hK2
/-- tenants are told people or nobody; all days of those that are let are left -/
def zTen (N : Nat) (W : Nat → Nat → Int32) : Prop := ∀ h, h < N → W 3 h = -2 ∨ ∃ t, t < N ∧ W 3 h = nI t
theorem S_ends (hw : zIsW w) (hp : zIsP p) (hk : zPk (fun g => ia (p + g)) N L T) (hT : zTen N W) (hK : ∀ la', zL5 la la' → K none (zPW w (zu (zit (zEnd1 (fun g => ia (p + g)) (ia 102)) N W) 0 0 (zit (zEnd1 (fun g => ia (p + g)) (ia 102)) N W 0 0 + 1)) ia, la', zRA pl dr (some p) (some w) rp)) : zWP (d + 7) 2 52 [some (.ref 102), some (.int 0)] [] (zPW w W ia, la, zRA pl dr (some p) (some w) rp) K := by
  obtain ⟨eN, hN, _, _, _, _, _, _, hlk, _⟩ := hk
  dsimp only at eN
  have keep : ∀ i, i ≤ N → ∀ h, i ≤ h → zit (zEnd1 (fun g => ia (p + g)) (ia 102)) i W 3 h = W 3 h := by
    intro i
    induction i with
    | zero => intro _ h _; rfl
    | succ i ih =>
      intro hi h hh
      rw [← ih (by omega) h (by omega)]
      show zEnd1 _ _ i (zit (zEnd1 (fun g => ia (p + g)) (ia 102)) i W) 3 h = _
      generalize zit (zEnd1 (fun g => ia (p + g)) (ia 102)) i W = V
      unfold zEnd1
      by_cases c1 : V 3 i < 0
      · rw [if_pos c1]
      · rw [if_neg c1]
        by_cases c2 : 0 < V 4 i - 1
        · rw [if_pos c2, zu_o (by decide)]
        · rw [if_neg c2]
          unfold zBack zBk2
          rw [zu_o (by decide), zu_o (by decide), zu_k (by omega)]
          show zBk1 _ _ _ _ 2 (zBk1 _ _ _ _ 1 (zBk1 _ _ _ _ 0 _)) 3 h = _
          unfold zBk1
          rw [zu_o (by decide), zu_o (by decide), zu_o (by decide)]
          show zu V 4 i _ 3 h = _
          rw [zu_o (by decide)]
  refine zlpI (fun i => ∀ la', zL5 la la' → zWP (d + 7) 2 52 [some (.ref 102), some (.int (nI i))] [] (zPW w (zit (zEnd1 (fun g => ia (p + g)) (ia 102)) i W) ia, la', zRA pl dr (some p) (some w) rp) K) N ?_ ?_ la (zL5_r la)
  · intro i hi ih la' h5
    have e3 := keep i (by omega) i (by omega)
    rw [show zit (zEnd1 (fun g => ia (p + g)) (ia 102)) (i + 1) W = zEnd1 (fun g => ia (p + g)) (ia 102) i (zit (zEnd1 (fun g => ia (p + g)) (ia 102)) i W) from rfl] at ih
    generalize zit (zEnd1 (fun g => ia (p + g)) (ia 102)) i W = V at ih e3 ⊢
    rw [b2_52 hp hw, zPW_p0 hw hp, show ia p 1 = nI N from eN, if_neg (nI_nle1 hi (by omega)), S_isLet hw (by omega), kS, b2_71 hw, zg (by omega) (by omega), zPW_g (by omega), ns, zcln (by omega), zPW_g (by omega), zPW_u (by omega), zPW_g (by omega), zu_eq]
    unfold zEnd1 at ih
    rcases hT i hi with h3 | ⟨t, ht, h3⟩
    · have c : V 3 i < 0 := by rw [e3, h3]; decide
      rw [if_pos c, if_pos rfl]
      rw [if_pos c] at ih
      exact ih _ h5
    · have c : ¬ V 3 i < 0 := by rw [e3, h3]; exact nI_pos (by omega)
      rw [if_neg c, if_neg (by decide)]
      rw [if_neg c] at ih
      by_cases c2 : 0 < V 4 i - 1
      · rw [if_pos c2]
        rw [if_pos c2] at ih
        exact ih _ h5
      · rw [if_neg c2]
        rw [if_neg c2] at ih
        refine S_back (t := t) hw hp hlk (by omega) (by omega) (by rw [zu_o (by decide), e3, h3]) (fun la2 h6 => ?_)
        rw [kN, b2_104, ns]
        exact ih _ (zL5_t h5 h6)
  · intro la' h5
    rw [b2_52 hp hw, zPW_p0 hw hp, show ia p 1 = nI N from eN, if_pos (nI_le1 (by omega) (by omega)), zPW_0, zPW_u0]
    exact hK la' h5
theorem zit_ten {f : Nat → (Nat → Nat → Int32) → Nat → Nat → Int32} {N n : Nat} (hf : ∀ k V, k < n → zTen N V → zTen N (f k V)) (hT : zTen N W) : zTen N (zit f n W) := by
  have : ∀ i, i ≤ n → zTen N (zit f i W) := by
    intro i
    induction i with
    | zero => intro _; exact hT
    | succ i ih => intro hi; exact hf i _ (by omega) (ih (by omega))
  exact this n (by omega)
theorem zTen_3 {V : Nat → Nat → Int32} (h : V 3 = W 3) (hT : zTen N W) : zTen N V := fun q hq => by rw [h]; exact hT q hq
theorem zLease_ten {p : Nat → Nat → Int32} {o : Nat → Int32} (hk : zPk p N L T) {k : Nat} {V : Nat → Nat → Int32} (hkL : k < L) (hT : zTen N V) : zTen N (zLease p o k V) := by
  obtain ⟨_, hN, _, _, _, _, hl, _⟩ := hk
  obtain ⟨h, m, t, n, c, hh, hm, hne, ht, hn0, hn, hc, e0, e1, e2, e3, e4⟩ := hl k hkL
  unfold zLease
  by_cases c1 : p (5 + k) 2 = V 0 0
  · rw [if_neg (fun q => q c1)]
    by_cases c2 : p (5 + k) 1 = o 5
    · rw [if_neg (fun q => q c2)]; exact hT
    · rw [if_pos c2]
      split
      · intro q hq
        unfold zOver
        rw [zu_o (by decide), zu_o (by decide), zu_o (by decide), zu_at, e1, zct_n (by omega)]
        by_cases c3 : q = zct (p (5 + k) 0)
        · rw [if_pos ⟨rfl, c3⟩]; exact Or.inr ⟨m, hm, rfl⟩
        · rw [if_neg (fun z => c3 z.2)]; exact hT q hq
      · exact zTen_3 (zu_o (by decide)) hT
  · rw [if_pos c1]; exact hT
theorem zLet_3 {p : Nat → Nat → Int32} {o : Nat → Int32} {k : Nat} {V : Nat → Nat → Int32} : zLet p o k V 3 = V 3 := by
  unfold zLet
  split
  · rfl
  · split
    · rfl
    · have e1 : zit (zWr1 p k (zct (p (16 + k) 0)) (zct (p (16 + k) 1)) (decide (zHd V (zct (p (16 + k) 1)) = p (16 + k) 0))) 3 V 3 = V 3 := by
        show zWr1 _ _ _ _ _ 2 (zWr1 _ _ _ _ _ 1 (zWr1 _ _ _ _ _ 0 V)) 3 = _
        unfold zWr1
        rw [zu_o (by decide), zu_o (by decide), zu_o (by decide)]
      unfold zWrite zWr3 zWr2
      split
      · rw [zu_o (by decide)]
        split
        · rw [zu_o (by decide), zu_o (by decide), e1]
        · exact e1
      · rw [zu_o (by decide), zu_o (by decide)]
        split
        · rw [zu_o (by decide), zu_o (by decide), e1]
        · exact e1
theorem zFind_3 {p : Nat → Nat → Int32} {o : Nat → Int32} {k : Nat} {V : Nat → Nat → Int32} : zFind p o k V 3 = V 3 := by
  unfold zFind
  split
  · rfl
  · split
    · rfl
    · unfold zFn1
      rw [zu_o (by decide), zu_o (by decide), zu_o (by decide)]
theorem S_day (hw : zIsW w) (hp : zIsP p) (hk : zPk (fun g => ia (p + g)) N L T) (hT : zTen N W) (hK : ∀ la', (∀ c, c ≠ 104 → c ≠ 105 → c ≠ w → la' c = la c) → la' w 1 = (zDay (fun g => ia (p + g)) (ia 102) W (la w 1)).2 → K none (zPW w (zDay (fun g => ia (p + g)) (ia 102) W (la w 1)).1 ia, la', zRA pl dr (some p) (some w) rp)) : zWM (d + 7) 2 [.ref 102] (zPW w W ia, la, zRA pl dr (some p) (some w) rp) K := by
  have hwl := zIsW_lt hw
  have eN : zct (ia (p + 0) 1) = N := by rw [show ia (p + 0) 1 = nI N from hk.1]; exact zct_n (by have := hk.2.1; omega)
  have eL : zct (ia (p + 0) 2) = L := by rw [show ia (p + 0) 2 = nI L from hk.2.2.1]; exact zct_n (by have := hk.2.2.2.1; omega)
  have eT : zct (ia (p + 0) 3) = T := by rw [show ia (p + 0) 3 = nI T from hk.2.2.2.2.1]; exact zct_n (by have := hk.2.2.2.2.2.1; omega)
  unfold zDay at hK
  dsimp only at hK
  rw [eN] at hK
  have fin : ∀ la2, (∀ c, c ≠ 104 → c ≠ 105 → c ≠ w → la2 c = la c) → la2 w 1 = (zMid (fun g => ia (p + g)) (ia 102) W (la w 1)).2 → ∀ V, V = (zMid (fun g => ia (p + g)) (ia 102) W (la w 1)).1 → zTen N V → zWP (d + 7) 2 52 [some (.ref 102), some (.int 0)] [] (zPW w V ia, la2, zRA pl dr (some p) (some w) rp) K := by
    intro la2 h1 h2 V eV hV
    rw [← eV] at hK
    refine S_ends hw hp hk hV (fun la3 h3 => ?_)
    refine hK la3 (fun c c4 c5 cw => by rw [h3 c c4 c5, h1 c c4 c5 cw]) ?_
    rw [h3 w (by omega) (by omega), h2]
  rw [e2, b2_0 hw, zPW_0]
  unfold zMid at fin
  dsimp only at fin
  rw [eL, eT] at fin
  by_cases c1 : 99 < W 0 0
  · rw [if_pos c1]
    rw [if_pos c1] at fin
    exact fin la (fun _ _ _ _ => rfl) rfl W rfl hT
  · rw [if_neg c1]
    rw [if_neg c1] at fin
    refine S_leases hw hp hk (fun la2 h2 => ?_)
    have hT1 : zTen N (zit (zLease (fun g => ia (p + g)) (ia 102)) L W) := zit_ten (fun k V hkL h => zLease_ten hk hkL h) hT
    generalize zit (zLease (fun g => ia (p + g)) (ia 102)) L W = V1 at fin hT1 ⊢
    rw [kN, b2_16 hw, S_letters hw hp hk, kN, b2_28 hw, zPW_0, zPW_0]
    have hT2 : zTen N (zit (zLet (fun g => ia (p + g)) (ia 102)) T V1) := zit_ten (fun k V _ h => zTen_3 zLet_3 h) hT1
    generalize zit (zLet (fun g => ia (p + g)) (ia 102)) T V1 = V2 at fin hT2 ⊢
    have hl2 : la2 w 1 = la w 1 := by rw [h2 w (by omega) (by omega)]
    by_cases c2 : V2 0 11 ≤ V1 0 11
    · rw [if_pos c2]
      rw [if_pos c2] at fin
      exact fin la2 (fun c c4 c5 _ => h2 c c4 c5) hl2 V2 rfl hT2
    · rw [if_neg c2, S_looks hw hp, kS, b2_43, hl2]
      rw [if_neg c2] at fin
      by_cases c3 : (zBk (fun g => ia (p + g)) (ia 102) (la w 1)).1 = 0
      · rw [if_pos c3]
        rw [if_pos c3] at fin
        exact fin _ (fun c c4 c5 c6 => by rw [zu_o c6]; exact h2 c c4 c5) (zu_eq _ _ _ _) V2 rfl hT2
      · rw [if_neg c3]
        rw [if_neg c3] at fin
        refine S_find hw hp hk (fun la3 h3 => ?_)
        rw [kN, b2_50]
        refine fin la3 (fun c c4 c5 c6 => by rw [h3 c c4 c5, zu_o c6]; exact h2 c c4 c5) (by rw [h3 w (by omega) (by omega), zu_eq]) _ rfl (zit_ten (fun k V _ h => zTen_3 zFind_3 h) hT2)
theorem zBack_3 {p : Nat → Nat → Int32} {o : Nat → Int32} {h : Nat} {V : Nat → Nat → Int32} : zBack p o h V 3 = va_up (V 3) h (-2) := by
  unfold zBack zBk2
  rw [zu_o (by decide), zu_o (by decide), zu_self]
  show va_up (zBk1 _ _ _ _ 2 (zBk1 _ _ _ _ 1 (zBk1 _ _ _ _ 0 V)) 3) h (-2) = _
  unfold zBk1
  rw [zu_o (by decide), zu_o (by decide), zu_o (by decide)]
theorem zEnd1_ten {p : Nat → Nat → Int32} {o : Nat → Int32} {h : Nat} {V : Nat → Nat → Int32} (hT : zTen N V) : zTen N (zEnd1 p o h V) := by
  unfold zEnd1
  split
  · exact hT
  · split
    · exact zTen_3 (zu_o (by decide)) hT
    · intro q hq
      rw [zBack_3, zu_o (by decide)]
      unfold va_up
      by_cases c : q = h
      · rw [if_pos c]; exact Or.inl rfl
      · rw [if_neg c]; exact hT q hq
theorem zMid_ten {p : Nat → Nat → Int32} {o : Nat → Int32} {r : Int64} (hk : zPk p N L T) (hT : zTen N W) : zTen N (zMid p o W r).1 := by
  have eL : zct (p 0 2) = L := by rw [hk.2.2.1]; exact zct_n (by have := hk.2.2.2.1; omega)
  have hT1 : zTen N (zit (zLease p o) L W) := zit_ten (fun k V hkL h => zLease_ten hk hkL h) hT
  have hT2 : zTen N (zit (zLet p o) (zct (p 0 3)) (zit (zLease p o) L W)) := zit_ten (fun k V _ h => zTen_3 zLet_3 h) hT1
  unfold zMid
  rw [eL]
  split
  · exact hT
  · split
    · exact hT2
    · split
      · exact hT2
      · exact zit_ten (fun k V _ h => zTen_3 zFind_3 h) hT2
theorem zDay_ten {p : Nat → Nat → Int32} {o : Nat → Int32} {r : Int64} (hk : zPk p N L T) (hT : zTen N W) : zTen N (zDay p o W r).1 := by
  unfold zDay
  dsimp only
  refine zTen_3 (W := zit (zEnd1 p o) (zct (p 0 1)) (zMid p o W r).1) (zu_o (by decide)) (zit_ten (fun k V _ h => zEnd1_ten h) (zMid_ten hk hT))
/-- n days -/
def zDays (p : Nat → Nat → Int32) (o : Nat → Int32) : Nat → (Nat → Nat → Int32) → Int64 → (Nat → Nat → Int32) × Int64
  | 0, W, r => (W, r)
  | n + 1, W, r => zDay p o (zDays p o n W r).1 (zDays p o n W r).2
theorem zDays_ten {p : Nat → Nat → Int32} {o : Nat → Int32} {r : Int64} (hk : zPk p N L T) (hT : zTen N W) (n : Nat) : zTen N (zDays p o n W r).1 := by
  induction n with
  | zero => exact hT
  | succ n ih => exact zDay_ten hk ih
theorem S_play {n : Nat} (hn : n < 100000) (hw : zIsW w) (hp : zIsP p) (hk : zPk (fun g => ia (p + g)) N L T) (hT : zTen N W) (hK : ∀ la', (∀ c, c ≠ 104 → c ≠ 105 → c ≠ w → la' c = la c) → la' w 1 = (zDays (fun g => ia (p + g)) (ia 102) n W (la w 1)).2 → K none (zPW w (zDays (fun g => ia (p + g)) (ia 102) n W (la w 1)).1 ia, la', zRA pl dr (some p) (some w) rp)) : zWM (d + 8) 1 [.ref 102, .int (nI n)] (zPW w W ia, la, zRA pl dr (some p) (some w) rp) K := by
  rw [e1, b1_0]
  refine zlpI (fun i => ∀ la', (∀ c, c ≠ 104 → c ≠ 105 → c ≠ w → la' c = la c) → la' w 1 = (zDays (fun g => ia (p + g)) (ia 102) i W (la w 1)).2 → zWP (d + 8) 1 2 [some (.ref 102), some (.int (nI n)), some (.int (nI i))] [] (zPW w (zDays (fun g => ia (p + g)) (ia 102) i W (la w 1)).1 ia, la', zRA pl dr (some p) (some w) rp) K) n ?_ ?_ la (fun _ _ _ _ => rfl) rfl
  · intro i hi ih la' h1 h2
    rw [b1_2, if_neg (nI_nle1 (by omega) (by omega))]
    refine S_day hw hp hk (zDays_ten hk hT i) (fun la2 h3 h4 => ?_)
    rw [kN, b1_11, ns]
    rw [h2] at h4
    have := ih la2 (fun c c4 c5 cw => by rw [h3 c c4 c5 cw, h1 c c4 c5 cw]) h4
    rw [h2]
    exact this
  · intro la' h1 h2
    rw [b1_2, if_pos (nI_le1 (by omega) (by omega))]
    exact hK la' h1 h2
end ZP
