/-! how a text begins, on both sides; the halves of the reference's rows -/
def yP0 : Nat → Nat → Nat := fun g k => if g = 28 ∧ k = 0 then 20 else 0
def yS0 : yS7 := (0, 0, 0, 0, 0, yP0, [])
theorem yWf_0 : yWf yS0 := by
  refine ⟨⟨by decide, by decide, by decide, by decide, by decide, fun k hk => absurd hk (Nat.not_lt_zero _)⟩, fun k hk => absurd hk (Nat.not_lt_zero _), fun k hk => absurd hk (Nat.not_lt_zero _), fun k hk => absurd hk (Nat.not_lt_zero _), fun k hk => absurd hk (Nat.not_lt_zero _), ⟨by decide, by decide, by decide⟩, fun r hr => ⟨[], [], [], rfl, ?_, ?_, fun z => absurd rfl z⟩, fun k hk => absurd hk List.not_mem_nil⟩
  · show 0 = (if 29 = 28 ∧ r = 0 then 20 else 0); rw [if_neg (by omega)]
  · show 0 + 0 = (if 30 = 28 ∧ r = 0 then 20 else 0); rw [if_neg (by omega)]
def yF9 (dr : Nat) (ia sa : Nat → Nat → Int32) : Prop := (∀ c k, c ≠ 1 → c ≠ 2 → c ≠ 5 → ¬ (dr ≤ c ∧ c < dr + 33) → sa c k = ia c k) ∧ sa 2 1 = 0
section ZP
variable {d pl dr n n0 : Nat} {cp cw rp : Option Nat} {b : Nat → Nat} {ia sa : Nat → Nat → Int32} {la : Nat → Nat → Int64} {K : Option Value → zHP → Prop}
theorem S_empty {rp' : Option Nat} (hdr : zIsP dr) (hK : ∀ ja : Nat → Nat → Int32, (∀ c k, ja c k = if (c = dr + 29 ∨ c = dr + 30) ∧ k < 3 then 0 else if c = dr + 28 ∧ k < 3 then (if k = 0 then 20 else 0) else if c = dr ∧ k < 5 then 0 else ia c k) → K none (ja, la, zRA pl dr cp cw rp')) : zWM d 20 [.ref dr] (ia, la, zRA pl dr cp cw rp') K := by
  have hr : dr = 6 ∨ dr = 39 := hdr
  have lp : ∀ (q j : Nat) (sa : Nat → Nat → Int32), j + q = 3 → (∀ ja : Nat → Nat → Int32, (∀ c k, ja c k = if (c = dr + 29 ∨ c = dr + 30) ∧ j ≤ k ∧ k < 3 then 0 else sa c k) → K none (ja, la, zRA pl dr cp cw rp')) → zWP d 20 49 [some (.ref dr), some (.int (nI j))] [] (sa, la, zRA pl dr cp cw rp') K := by
    intro q
    induction q with
    | zero =>
      intro j sa hj hK
      obtain rfl : j = 3 := by omega
      rw [b20_49 hdr, if_pos (show (3 : Int32) ≤ nI 3 by decide)]
      exact hK sa (fun c k => by rw [if_neg (by omega)])
    | succ q ih =>
      intro j sa hj hK
      rw [b20_49 hdr, if_neg (z3le (by omega)), zg (by omega) (by omega), zcln (by omega), ns]
      refine ih (j + 1) _ (by omega) (fun ja hja => hK ja (fun c k => ?_))
      rw [hja, zu_at, zu_at]
      by_cases e : (c = dr + 29 ∨ c = dr + 30) ∧ j ≤ k ∧ k < 3
      · rw [if_pos e]
        by_cases e2 : k = j
        · rw [if_neg (by omega)]
          by_cases e3 : c = dr + 30
          · rw [if_pos ⟨e3, e2⟩]
          · rw [if_neg (fun z => e3 z.1), if_pos ⟨by omega, e2⟩]
        · rw [if_pos (by omega)]
      · rw [if_neg e, if_neg (by omega), if_neg (by omega), if_neg (by omega)]
  rw [e20, b20_0 hdr]
  refine lp 3 0 _ (by omega) (fun ja hja => hK ja (fun c k => ?_))
  rw [hja]
  by_cases e : (c = dr + 29 ∨ c = dr + 30) ∧ k < 3
  · rw [if_pos ⟨e.1, by omega, e.2⟩, if_pos e]
  rw [if_neg (fun z => e ⟨z.1, z.2.2⟩), if_neg e]
  simp only [zu_at]
  by_cases e2 : c = dr + 28 ∧ k < 3
  · rw [if_pos e2]
    have hk : k = 0 ∨ k = 1 ∨ k = 2 := by omega
    rcases hk with hk | hk | hk
    · rw [if_neg (by omega), if_neg (by omega), if_pos ⟨e2.1, hk⟩, if_pos hk]
    · rw [if_neg (by omega), if_pos ⟨e2.1, hk⟩, if_neg (by omega)]
    · rw [if_pos ⟨e2.1, hk⟩, if_neg (by omega)]
  rw [if_neg e2, if_neg (by omega), if_neg (by omega), if_neg (by omega)]
  by_cases e3 : c = dr ∧ k < 5
  · rw [if_pos e3]
    have hk : k = 0 ∨ k = 1 ∨ k = 2 ∨ k = 3 ∨ k = 4 := by omega
    rcases hk with hk | hk | hk | hk | hk
    · rw [if_neg (by omega), if_neg (by omega), if_neg (by omega), if_neg (by omega), if_pos ⟨e3.1, hk⟩]
    · rw [if_neg (by omega), if_neg (by omega), if_neg (by omega), if_pos ⟨e3.1, hk⟩]
    · rw [if_neg (by omega), if_neg (by omega), if_pos ⟨e3.1, hk⟩]
    · rw [if_neg (by omega), if_pos ⟨e3.1, hk⟩]
    · rw [if_pos ⟨e3.1, hk⟩]
  · rw [if_neg e3, if_neg (by omega), if_neg (by omega), if_neg (by omega), if_neg (by omega), if_neg (by omega)]
theorem C_text (hdr : zIsP dr) (hn : n ≤ n0) (h7 : n0 ≤ 700) (e1 : ia 2 1 = nI n0) (hL : zLang ia) (hb : ∀ j, j < n → b j < 256 ∧ ia 3 j = zcb (b j)) (hO : ∀ ln s s9 sa, yTx b n (n + 1) 0 yS0 = .ok (ln, s) → yCLs b n dr s9 s ln sa → yWf s → yF9 dr ia sa → K none (sa, la, zRA pl dr cp cw (some dr))) (hE : ∀ e sa, yTx b n (n + 1) 0 yS0 = .error e → sa 1 3 = nI e.1 → sa 1 4 = nI e.2 → ¬ sa 1 3 = 0 → yF9 dr ia sa → K none (sa, la, zRA pl dr cp cw (some dr))) : zWM (d + 8) 22 [.ref 1, .int (nI n), .ref dr] (ia, la, zRA pl dr cp cw rp) K := by
  have hr : dr = 6 ∨ dr = 39 := hdr
  rw [e22, b22_0 hdr]
  refine S_empty hdr (fun E hEm => ?_)
  have E2 : E 2 1 = nI n0 := by rw [hEm, if_neg (by omega), if_neg (by omega), if_neg (by omega)]; exact e1
  rw [kN, b22_12 hdr, e58, b58_0, zu_o (show (2 : Nat) ≠ 1 by decide), zu_o (show (2 : Nat) ≠ 1 by decide), zu_o (show (2 : Nat) ≠ 1 by decide), zu_o (show (2 : Nat) ≠ 1 by decide), E2, if_neg (nI_nlt hn (by omega))]
  generalize hs9 : zu (zu (zu (zu (zu (zu (zu E 1 2 0) 1 8 0) 1 3 0) 1 4 (-1)) 2 3 (nI n)) 2 1 0) 2 4 0 = s9
  have o9 : ∀ c, c ≠ 1 → c ≠ 2 → s9 c = E c := fun c g1 g2 => by rw [← hs9, zu_o g2, zu_o g2, zu_o g2, zu_o g1, zu_o g1, zu_o g1, zu_o g1]
  have o1 : ∀ k, s9 1 k = if k = 4 then -1 else if k = 3 then 0 else if k = 8 then 0 else if k = 2 then 0 else E 1 k := fun k => by
    rw [← hs9, zu_o (by decide), zu_o (by decide), zu_o (by decide), zu_at, zu_at, zu_at, zu_at]
    simp only [true_and]
  have hE3 : ∀ j, E 3 j = ia 3 j := fun j => by rw [hEm, if_neg (by omega), if_neg (by omega), if_neg (by omega)]
  have hE4 : ∀ j, E 4 j = ia 4 j := fun j => by rw [hEm, if_neg (by omega), if_neg (by omega), if_neg (by omega)]
  have rd : zRd b n 0 s9 := ⟨by omega, by omega, by rw [← hs9, zu_k (by decide), zu_k (by decide), zu_eq], by rw [← hs9, zu_eq]; rfl, fun j hj => ⟨(hb j hj).1, by rw [o9 3 (by decide) (by decide), hE3]; exact (hb j hj).2⟩⟩
  have lg : zLang s9 := fun k hk => by rw [o9 4 (by decide) (by decide), hE4]; exact hL k hk
  have s21 : s9 2 1 = 0 := by rw [← hs9, zu_k (by decide), zu_eq]
  refine S_advT (d := d + 4) rd lg (fun ja g1 g2 => ?_)
  rw [kN, b58_26, kN, b22_40 hdr]
  have f9 : ∀ sa, yFl dr s9 sa → yF9 dr ia sa := fun sa hf => ⟨fun c k q1 q2 q3 q4 => by
    rw [hf c k (by rintro (z | z | z | z); exact q1 z; exact q2 z.1; exact q3 z; exact q4 z), o9 c q1 q2, hEm, if_neg (by omega), if_neg (by omega), if_neg (by omega)], by rw [hf 2 1 (by rintro (z | z | z | z) <;> omega)]; exact s21⟩
  have q : ∀ c k, c ≠ 1 → c ≠ 2 → ja c k = E c k := fun c k h1 h2 => by rw [g1 c k (by omega), o9 c h1 h2]
  have q1 : ∀ k, ja 1 k = s9 1 k := fun k => g1 1 k (by omega)
  have hcl : yCLs b n dr s9 yS0 0 ja := by
    refine ⟨g2, by rw [q1, o1]; rfl, by rw [q1, o1]; rfl, by rw [q1, o1]; rfl, by rw [q1, o1]; rfl, ?_, ?_, ?_, ?_, ?_, fun g k hg => ?_, fun j hj => absurd hj (Nat.not_lt_zero _), fun c k hn => g1 c k (fun z => hn (Or.inr (Or.inl z)))⟩
    · rw [q dr 0 (by omega) (by omega), hEm, if_neg (by omega), if_neg (by omega), if_pos ⟨rfl, by decide⟩]; rfl
    · rw [q dr 1 (by omega) (by omega), hEm, if_neg (by omega), if_neg (by omega), if_pos ⟨rfl, by decide⟩]; rfl
    · rw [q dr 2 (by omega) (by omega), hEm, if_neg (by omega), if_neg (by omega), if_pos ⟨rfl, by decide⟩]; rfl
    · rw [q dr 3 (by omega) (by omega), hEm, if_neg (by omega), if_neg (by omega), if_pos ⟨rfl, by decide⟩]; rfl
    · rw [q dr 4 (by omega) (by omega), hEm, if_neg (by omega), if_neg (by omega), if_pos ⟨rfl, by decide⟩]; rfl
    · have hg : 28 ≤ g ∧ g ≤ 30 ∧ k < 3 := by
        rcases hg with z | z | z | z | z | z
        · exact absurd z.2 (Nat.not_lt_zero _)
        · exact absurd z.2 (Nat.not_lt_zero _)
        · exact absurd z.2 (Nat.not_lt_zero _)
        · have z2 : g < 5 + 0 := z.2.1; omega
        · have z2 : g < 16 + 0 := z.2.1; omega
        · exact z
      refine ⟨Or.inr (Or.inr ⟨by omega, by omega⟩), ?_⟩
      rw [q (dr + g) k (by omega) (by omega), hEm]
      show _ = nI (if g = 28 ∧ k = 0 then 20 else 0)
      by_cases g28 : g = 28
      · rw [if_neg (by omega), if_pos ⟨by omega, hg.2.2⟩]
        by_cases k0 : k = 0
        · rw [if_pos k0, if_pos ⟨g28, k0⟩]; rfl
        · rw [if_neg k0, if_neg (fun z => k0 z.2)]; rfl
      · rw [if_pos ⟨by omega, hg.2.2⟩, if_neg (fun z => g28 z.1)]; rfl
  exact C_read (d := d + 1) hdr (n + 1) 0 0 yS0 ja (nI n) (by show n < 0 + (n + 1); omega) hcl yWf_0 (Nat.zero_le _) (fun ln s sa z1 z2 z3 => hO ln s s9 sa z1 z2 z3 (f9 sa z2.2.2.2.2.2.2.2.2.2.2.2.2)) (fun e N' sa z1 _ z3 => hE e sa z1 z3.1 z3.2.1 (yCe_n z3) (f9 sa z3.2.2.2.2))
/-- the reference's half: what is above comes down -/
theorem S_half {c h : Nat} (hk : zkd c = 100) (hl : zln c = 2 * h) (hh : h < 1000) (hK : ∀ ja : Nat → Nat → Int32, (∀ a q, ja a q = if a = c ∧ q < h then sa c (h + q) else sa a q) → K none (ja, la, zRA pl dr cp cw rp)) : zWM d 160 [.ref c] (sa, la, zRA pl dr cp cw rp) K := by
  have lp : ∀ (m j : Nat) (ja : Nat → Nat → Int32), j + m = h → (∀ a q, ja a q = if a = c ∧ q < j then sa c (h + q) else sa a q) → zWP d 160 7 [some (.ref c), some (.int (nI h)), some (.int (nI j))] [] (ja, la, zRA pl dr cp cw rp) K := by
    intro m
    induction m with
    | zero =>
      intro j ja hj hja
      obtain rfl : j = h := by omega
      rw [b160_7, if_pos (nI_le1 (Nat.le_refl _) (by omega))]
      exact hK ja hja
    | succ m ih =>
      intro j ja hj hja
      rw [b160_7, if_neg (nI_nle1 (by omega) (by omega)), nI_add, zdrop ⟨hk, by rw [hl]; exact zvi (by omega) (by omega)⟩, zdrop ⟨hk, by rw [hl]; exact zvi (by omega) (by omega)⟩, zcln (by omega), zcln (by omega), ns]
      have ev : ja c (h + j) = sa c (h + j) := by rw [hja, if_neg (by omega)]
      rw [ev]
      refine ih (j + 1) _ (by omega) (fun a q => ?_)
      rw [zu_at, hja]
      by_cases e : a = c ∧ q = j
      · rw [if_pos e, if_pos ⟨e.1, by omega⟩, e.2]
      · rw [if_neg e]
        by_cases e2 : a = c ∧ q < j
        · rw [if_pos e2, if_pos ⟨e2.1, by omega⟩]
        · rw [if_neg e2, if_neg (by omega)]
  rw [e160, b160_0, zdrop ⟨by rw [hk]; decide, by rw [hk]; decide⟩, hl]
  have e2 : (Int32.ofNat (2 * h)) / 2 = nI h := by
    show nI (2 * h) / nI 2 = nI h
    rw [pk_div (by omega) (by omega) (by omega)]
    congr 1
    omega
  rw [e2]
  exact lp h 0 sa (by omega) (fun a q => by rw [if_neg (by omega)])
end ZP
