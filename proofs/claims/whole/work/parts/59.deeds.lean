/-! deeds -/
theorem zcp_p (f : Nat → Nat → Int32) (a b : Nat) (i j n : Int32) (c k : Nat) : zcp f a b i j n c k = if c = b ∧ j.toNatClampNeg ≤ k ∧ k < j.toNatClampNeg + n.toNatClampNeg then f a (i.toNatClampNeg + (k - j.toNatClampNeg)) else f c k := by
  unfold zcp
  by_cases e : c = b
  · subst e
    rw [vup_s]
    unfold va_cpy
    by_cases h : j.toNatClampNeg ≤ k ∧ k < j.toNatClampNeg + n.toNatClampNeg
    · rw [if_pos h, if_pos ⟨rfl, h⟩]
    · rw [if_neg h, if_neg (fun z => h z.2)]
  · rw [vup_n e, if_neg (fun z => e z.1)]
section ZP
variable {d pl dr N L T D s : Nat} {cp cw rp : Option Nat} {p ia W V : Nat → Nat → Int32} {o : Nat → Int32} {r bn x y : Int32} {la : Nat → Nat → Int64} {K : Option Value → zHP → Prop}
theorem S_note {h n m : Nat} (hh : h < 6) (hn : n < 20) (hm : m ≤ 20) (e1 : ia 113 1 = nI n) (e2 : ia 113 2 = nI m) (hK : ∀ ja : Nat → Nat → Int32, (∀ c k, ja c k = if c = 113 ∧ k = 2 then nI (if m < 20 then m + 1 else 20) else if c = 113 ∧ k = 1 then nI ((n + 1) % 20) else if c = 114 ∧ 13 * n + 7 ≤ k ∧ k < 13 * n + 7 + 6 then ia 73 (0 + (k - (13 * n + 7))) else if c = 114 ∧ 13 * n + 4 ≤ k ∧ k < 13 * n + 4 + 3 then ia 74 (3 * h + (k - (13 * n + 4))) else if c = 114 ∧ k = 13 * n + 3 then ia 77 h else if c = 114 ∧ k = 13 * n + 2 then ia 76 h else if c = 114 ∧ k = 13 * n + 1 then ia 75 h else if c = 114 ∧ k = 13 * n then nI h else ia c k) → K none (ja, la, zRA pl dr cp cw rp)) : zWM (d + 5) 12 [.ref 113, .ref 72, .int (nI h)] (ia, la, zRA pl dr cp cw rp) K := by
  have a0 : ia 113 1 * 13 = nI (13 * n) := by rw [e1, show (13 : Int32) = nI 13 from rfl, pk_mul]; congr 1; omega
  have ad : ∀ (a b : Nat) (c : Int32), c = nI b → nI a + c = nI (a + b) := fun a b c e => by rw [e, nI_add]
  rw [e12, b12_0 (Or.inl rfl)]
  rw [a0, ad _ 1 1 rfl, ad _ 2 2 rfl, ad _ 3 3 rfl, ad _ 4 4 rfl, ad _ 7 7 rfl, n3', zg (by omega) (by omega), zg (by omega) (by omega), zg (by omega) (by omega), zg (by omega) (by omega), zg (by omega) (by omega), zcln (show 13 * n < 100000 by omega), zcln (show 13 * n + 1 < 100000 by omega), zcln (show 13 * n + 2 < 100000 by omega), zcln (show 13 * n + 3 < 100000 by omega), zcln (show 13 * n + 4 < 100000 by omega), zcln (show 13 * n + 7 < 100000 by omega), zcln (show h < 100000 by omega), zcln (show 3 * h < 100000 by omega)]
  rw [zdrop ⟨nI_pos (by omega), nI_pos (by omega), by decide, show 3 * h + 3 ≤ 18 by omega, show 13 * n + 4 + 3 ≤ 260 by omega⟩, zdrop ⟨by decide, nI_pos (by omega), by decide, by decide, show 13 * n + 7 + 6 ≤ 260 by omega⟩]
  refine hK _ (fun c k => ?_)
  simp only [zu_at, zcp_p, zcln (show 13 * n + 4 < 100000 by omega), zcln (show 13 * n + 7 < 100000 by omega), zcln (show 3 * h < 100000 by omega), Nat.reduceEqDiff, false_and, and_false, if_false, e1, e2]
  have v1 : nI n + 1 - (nI n + 1) / 20 * 20 = nI ((n + 1) % 20) := by rw [ns, show (20 : Int32) = nI 20 from rfl, pk_rem (by omega) (by omega) (by omega)]
  have v2 : (if nI m + 1 < 20 then nI m + 1 else 20) = nI (if m < 20 then m + 1 else 20) := by
    rw [ns]
    by_cases c : m + 1 < 20
    · rw [if_pos (show nI (m + 1) < 20 from nI_lt (b := 20) c (by omega)), if_pos (by omega)]
    · rw [if_neg (show ¬ nI (m + 1) < 20 from nI_nlt (b := 20) (by omega) (by omega))]
      by_cases c2 : m < 20
      · rw [if_pos c2, show m + 1 = 20 by omega]; rfl
      · rw [if_neg c2]; rfl
  rw [v1, v2]
  rfl
theorem S_take {h n m : Nat} (hh : h < 6) (hn : n < 20) (hm0 : 0 < m) (hm : m ≤ 20) (e1 : ia 113 1 = nI n) (e2 : ia 113 2 = nI m) (eh : ia 114 (13 * ((n + 19) % 20)) = nI h) (hK : ∀ ja : Nat → Nat → Int32, (∀ c k, ja c k = if c = 73 ∧ k < 6 then ia 114 (13 * ((n + 19) % 20) + 7 + k) else if c = 74 ∧ 3 * h ≤ k ∧ k < 3 * h + 3 then ia 114 (13 * ((n + 19) % 20) + 4 + (k - 3 * h)) else if c = 77 ∧ k = h then ia 114 (13 * ((n + 19) % 20) + 3) else if c = 76 ∧ k = h then ia 114 (13 * ((n + 19) % 20) + 2) else if c = 75 ∧ k = h then ia 114 (13 * ((n + 19) % 20) + 1) else if c = 113 ∧ k = 2 then nI (m - 1) else if c = 113 ∧ k = 1 then nI ((n + 19) % 20) else ia c k) → K (some (.int (nI (m - 1)))) (ja, la, zRA pl dr cp cw rp)) : zWM (d + 5) 13 [.ref 113, .ref 72] (ia, la, zRA pl dr cp cw rp) K := by
  have hj : (n + 19) % 20 < 20 := Nat.mod_lt _ (by decide)
  have v1 : ia 113 1 + 20 - 1 - (ia 113 1 + 20 - 1) / 20 * 20 = nI ((n + 19) % 20) := by
    rw [e1, show (20 : Int32) = nI 20 from rfl, nI_add, show n + 20 = n + 19 + 1 from rfl, np, pk_rem (by omega) (by omega) (by omega)]
  generalize (n + 19) % 20 = j at *
  have a0 : nI j * 13 = nI (13 * j) := by rw [show (13 : Int32) = nI 13 from rfl, pk_mul]; congr 1; omega
  have ad : ∀ (a b : Nat) (c : Int32), c = nI b → nI a + c = nI (a + b) := fun a b c e => by rw [e, nI_add]
  have v2 : nI m - 1 = nI (m - 1) := by rw [show (1 : Int32) = nI 1 from rfl, pk_sub (by omega)]
  rw [e13, b13_0 (Or.inl rfl), e2, if_pos (nI_ne0 (by omega) (by omega)), v1]
  have rA : ∀ c k, zu (zu ia 113 1 (nI j)) 113 2 (zu ia 113 1 (nI j) 113 2 - 1) c k = if c = 113 ∧ k = 2 then nI (m - 1) else if c = 113 ∧ k = 1 then nI j else ia c k := by
    intro c k
    rw [zu_at, zu_at, zu_at, if_neg (show ¬ (113 = 113 ∧ 2 = 1) by omega), e2, v2]
  generalize zu (zu ia 113 1 (nI j)) 113 2 (zu ia 113 1 (nI j) 113 2 - 1) = A at rA ⊢
  have a1 : A 113 1 = nI j := by rw [rA, if_neg (by omega), if_pos ⟨rfl, rfl⟩]
  have a4 : A 114 = ia 114 := by funext k; rw [rA, if_neg (by omega), if_neg (by omega)]
  rw [a1, a4, a0, ad _ 1 1 rfl, ad _ 2 2 rfl, ad _ 3 3 rfl, ad _ 4 4 rfl, ad _ 7 7 rfl, zg (by omega) (by omega), zg (by omega) (by omega), zcln (show 13 * j < 100000 by omega), eh, zg (by omega) (by omega), zg (by omega) (by omega), zg (by omega) (by omega), n3', zcln (show 13 * j + 1 < 100000 by omega), zcln (show 13 * j + 2 < 100000 by omega), zcln (show 13 * j + 3 < 100000 by omega), zcln (show 13 * j + 4 < 100000 by omega), zcln (show 13 * j + 7 < 100000 by omega), zcln (show h < 100000 by omega), zcln (show 3 * h < 100000 by omega)]
  rw [zdrop ⟨nI_pos (by omega), nI_pos (by omega), by decide, show 13 * j + 4 + 3 ≤ 260 by omega, show 3 * h + 3 ≤ 18 by omega⟩, zdrop ⟨nI_pos (by omega), by decide, by decide, show 13 * j + 7 + 6 ≤ 260 by omega, by decide⟩]
  have key := hK (zcp (zcp (zu (zu (zu A (72 + 3) h (ia 114 (13 * j + 1))) (72 + 4) h (zu A (72 + 3) h (ia 114 (13 * j + 1)) 114 (13 * j + 2))) (72 + 5) h (zu (zu A (72 + 3) h (ia 114 (13 * j + 1))) (72 + 4) h (zu A (72 + 3) h (ia 114 (13 * j + 1)) 114 (13 * j + 2)) 114 (13 * j + 3))) 114 (72 + 2) (nI (13 * j + 4)) (nI (3 * h)) 3) 114 (72 + 1) (nI (13 * j + 7)) 0 6) (fun c k => ?_)
  · have ev : zcp (zcp (zu (zu (zu A (72 + 3) h (ia 114 (13 * j + 1))) (72 + 4) h (zu A (72 + 3) h (ia 114 (13 * j + 1)) 114 (13 * j + 2))) (72 + 5) h (zu (zu A (72 + 3) h (ia 114 (13 * j + 1))) (72 + 4) h (zu A (72 + 3) h (ia 114 (13 * j + 1)) 114 (13 * j + 2)) 114 (13 * j + 3))) 114 (72 + 2) (nI (13 * j + 4)) (nI (3 * h)) 3) 114 (72 + 1) (nI (13 * j + 7)) 0 6 113 2 = nI (m - 1) := by
      simp only [zu_at, zcp_p, rA, Nat.reduceAdd, Nat.reduceEqDiff, false_and, and_false, if_false, true_and, if_true, and_true]
    rw [ev]
    exact key
  · simp only [zu_at, zcp_p, rA, zcln (show 13 * j + 4 < 100000 by omega), zcln (show 13 * j + 7 < 100000 by omega), zcln (show 3 * h < 100000 by omega), Nat.reduceAdd, Nat.reduceEqDiff, false_and, and_false, if_false]
    have e0 : Int32.toNatClampNeg 0 = 0 := rfl
    have e6 : Int32.toNatClampNeg 6 = 6 := rfl
    have e3 : Int32.toNatClampNeg 3 = 3 := rfl
    rw [e0, e6, e3]
    by_cases q1 : c = 73 ∧ k < 6
    · rw [if_pos q1, if_pos (by omega), Nat.sub_zero]
    · rw [if_neg q1, if_neg (by omega)]
theorem zHas_low {s c0 k : Nat} {v : Int32} (hc : c0 < 147) (h : zHas N s W r ia) : zHas N s W r (zu ia c0 k v) := by
  refine zHas_in (fun c j hj => ?_) h
  have : 147 ≤ c := by rcases hj with q | q | q | q | q <;> omega
  rw [zu_o (by omega)]
/-- one deed more -/
theorem zDeed_note {ja : Nat → Nat → Int32} {m nx : Nat} {Ws : Nat → Nat → Nat → Int32} (hm : m ≤ 20) (hnx : nx < 20) (hWm : Ws m = W) (hold : ∀ i, i < m → zWf p N T D (Ws i) ∧ zRow N (ia 114) ((nx + 20 - m + i) % 20) (Ws i) (Ws (i + 1))) (hWf : zWf p N T D W) (k1 : ja 113 1 = nI ((nx + 1) % 20)) (k2 : ja 113 2 = nI (if m < 20 then m + 1 else 20)) (k3 : ja 127 48 = nI (if m < 20 then m + 1 else 20)) (hs : ∀ i, i < (if m < 20 then m + 1 else 20) → zHas N (3 + i) (if m < 20 then Ws i else Ws (i + 1)) r ja) (hrow : zRow N (ja 114) nx W V) (hR : ∀ k, ¬ (13 * nx ≤ k ∧ k < 13 * nx + 13) → ja 114 k = ia 114 k) : zDeed p N T D V r ja := by
  have rowk : ∀ j A B, j ≠ nx → zRow N (ia 114) j A B → zRow N (ja 114) j A B := by
    intro j A B hj hr
    obtain ⟨h, a1, a2, a3, a4, a5, a6, a7, a8⟩ := hr
    have e : ∀ q, q < 13 → ja 114 (13 * j + q) = ia 114 (13 * j + q) := fun q hq => hR _ (by omega)
    refine ⟨h, a1, ?_, ?_, ?_, ?_, fun i hi => ?_, fun i hi => ?_, a8⟩
    · rw [show 13 * j = 13 * j + 0 from rfl, e 0 (by omega)]; exact a2
    · rw [e 1 (by omega)]; exact a3
    · rw [e 2 (by omega)]; exact a4
    · rw [e 3 (by omega)]; exact a5
    · rw [Nat.add_assoc, e (4 + i) (by omega), ← Nat.add_assoc]; exact a6 i hi
    · rw [Nat.add_assoc, e (7 + i) (by omega), ← Nat.add_assoc]; exact a7 i hi
  by_cases c : m < 20
  · simp only [c, if_true] at k2 k3 hs
    refine ⟨m + 1, (nx + 1) % 20, fun i => if i ≤ m then Ws i else V, by omega, Nat.mod_lt _ (by decide), k1, k2, k3, ?_, fun i hi => ?_⟩
    · dsimp only; rw [if_neg (by omega)]
    · dsimp only
      rw [if_pos (show i ≤ m by omega)]
      refine ⟨hs i hi, ?_⟩
      by_cases e : i = m
      · subst e
        rw [if_neg (by omega), hWm]
        refine ⟨hWf, ?_⟩
        rw [show ((nx + 1) % 20 + 20 - (i + 1) + i) % 20 = nx by omega]
        exact hrow
      · rw [if_pos (by omega)]
        obtain ⟨o1, o2⟩ := hold i (by omega)
        refine ⟨o1, ?_⟩
        rw [show ((nx + 1) % 20 + 20 - (m + 1) + i) % 20 = (nx + 20 - m + i) % 20 by omega]
        exact rowk _ _ _ (by omega) o2
  · simp only [c, if_false] at k2 k3 hs
    have c20 : m = 20 := by omega
    subst c20
    refine ⟨20, (nx + 1) % 20, fun i => if i ≤ 19 then Ws (i + 1) else V, by omega, Nat.mod_lt _ (by decide), k1, k2, k3, ?_, fun i hi => ?_⟩
    · dsimp only; rw [if_neg (by omega)]
    · dsimp only
      rw [if_pos (show i ≤ 19 by omega)]
      refine ⟨hs i hi, ?_⟩
      by_cases e : i = 19
      · subst e
        rw [if_neg (by omega), hWm]
        refine ⟨hWf, ?_⟩
        rw [show ((nx + 1) % 20 + 20 - 20 + 19) % 20 = nx by omega]
        exact hrow
      · rw [if_pos (by omega)]
        obtain ⟨o1, o2⟩ := hold (i + 1) (by omega)
        refine ⟨o1, ?_⟩
        rw [show ((nx + 1) % 20 + 20 - 20 + i) % 20 = (nx + 20 - 20 + (i + 1)) % 20 by omega]
        exact rowk _ _ _ (by omega) o2
theorem S_keepN {m : Nat} {Ws : Nat → Nat → Nat → Int32} (hm : m ≤ 20) (e : ia 127 48 = nI m) (h0 : zHas N 0 W r ia) (hWm : Ws m = W) (hs : ∀ i, i < m → zHas N (3 + i) (Ws i) r ia) (hK : ∀ ja : Nat → Nat → Int32, zFG (fun g => g = 5) ia ja → (∀ c, c < 127 → ja c = ia c) → ja 127 48 = nI (if m < 20 then m + 1 else 20) → (∀ i, i < (if m < 20 then m + 1 else 20) → zHas N (3 + i) (if m < 20 then Ws i else Ws (i + 1)) r ja) → K none (ja, la, zRA pl dr cp cw rp)) : zWM (d + 1) 196 [.ref 127] (ia, la, zRA pl dr cp cw rp) K := by
  have a3 : ∀ a : Nat, 3 + nI a = nI (3 + a) := fun a => by rw [show (3 : Int32) = nI 3 from rfl, nI_add]
  rw [e196, b196_0, e]
  by_cases c : m < 20
  · simp only [c, if_true] at hK
    rw [if_pos (show ¬ nI m = 20 from fun q => by have := (nI_eq (b := 20) (by omega) (by omega)).mp q; omega), a3]
    refine Eq.mpr (S_copies (t := 3 + m) (a := 0) (by omega) (by omega) (by omega) h0) ?_
    rw [kN, b196_56]
    have hlow : zPM N (3 + m) W r ia 127 = ia 127 := zPM_o (by omega)
    refine hK _ ?_ ?_ ?_ ?_
    · exact zFG_u rfl (zFG_PM (by rw [zsgr_5]) zFG_r)
    · intro c hc
      rw [zu_o (by omega), zPM_o (by omega)]
    · rw [zu_eq, hlow, e, ns]
    · intro i hi
      refine zHas_low (by omega) ?_
      by_cases ei : i = m
      · subst ei; rw [hWm]; exact zHas_M
      · exact zHas_o (by omega) (hs i (by omega))
  · simp only [c, if_false] at hK
    have c20 : m = 20 := by omega
    subst c20
    rw [if_neg (fun q => q rfl)]
    have lp : ∀ (n k : Nat) (ja : Nat → Nat → Int32), k + n = 20 → 0 < k → zFG (fun g => g = 5) ia ja → (∀ c, c < 128 → ja c = ia c) → zHas N 0 W r ja → (∀ i, i + 1 < k → zHas N (3 + i) (Ws (i + 1)) r ja) → (∀ i, k ≤ i → i < 20 → zHas N (3 + i) (Ws i) r ja) → zWP (d + 1) 196 11 [some (.ref 127), some (.int (nI k))] [] (ja, la, zRA pl dr cp cw rp) K := by
      intro n
      induction n with
      | zero =>
        intro k ja hk hk0 hF hl hz h1 h2
        have ek : k = 20 := by omega
        subst ek
        have e7 : ja 127 48 = nI 20 := by rw [hl 127 (by omega)]; exact e
        rw [b196_11, if_pos (by decide), zu_eq, e7, show nI 20 - 1 = nI 19 from rfl, a3]
        refine Eq.mpr (S_copies (t := 3 + 19) (a := 0) (by omega) (by omega) (by omega) (zHas_low (by omega) hz)) ?_
        rw [kN, b196_56]
        have hlow : zPM N (3 + 19) W r (zu ja 127 48 (nI 19)) 127 48 = nI 19 := by rw [zPM_o (by omega), zu_eq]
        refine hK _ ?_ ?_ ?_ ?_
        · exact zFG_u rfl (zFG_PM (by rw [zsgr_5]) (zFG_u rfl hF))
        · intro c hc
          rw [zu_o (by omega), zPM_o (by omega), zu_o (by omega), hl c (by omega)]
        · rw [zu_eq, hlow]; rfl
        · intro i hi
          refine zHas_low (by omega) ?_
          by_cases ei : i = 19
          · subst ei; rw [hWm]; exact zHas_M
          · exact zHas_o (by omega) (zHas_low (by omega) (h1 i (by omega)))
      | succ n ih =>
        intro k ja hk hk0 hF hl hz h1 h2
        obtain ⟨j, rfl⟩ : ∃ j, k = j + 1 := ⟨k - 1, by omega⟩
        rw [b196_11, if_neg (show ¬ (20 : Int32) ≤ nI (j + 1) from nI_nle1 (a := 20) (by omega) (by omega)), a3, show 3 + (j + 1) = 3 + j + 1 from rfl, np]
        refine Eq.mpr (S_copies (t := 3 + j) (a := 3 + j + 1) (by omega) (by omega) (by omega) (h2 (j + 1) (by omega) (by omega))) ?_
        rw [kN, b196_29, ns]
        refine ih (j + 1 + 1) _ (by omega) (by omega) (zFG_PM (by rw [zsgr_5]) hF) (fun c hc => by rw [zPM_o (by omega), hl c hc]) (zHas_o (by omega) hz) ?_ ?_
        · intro i hi
          by_cases ei : i = j
          · subst ei; exact zHas_M
          · exact zHas_o (by omega) (h1 i (by omega))
        · intro i hi hi2
          exact zHas_o (by omega) (h2 i (by omega) hi2)
    exact lp 19 1 ia (by omega) (by omega) zFG_r (fun _ _ => rfl) h0 (fun i hi => by omega) (fun i _ hi => hs i hi)
end ZP
