/-! the reference's text: its begin, its halves -/
def yG9 (ia sa : Nat → Nat → Int32) : Prop := (∀ c k, ¬ (c = 127 ∧ (k = 0 ∨ k = 2 ∨ (19 ≤ k ∧ k ≤ 31 ∧ k ≠ 28 ∧ k ≠ 29))) → ¬ (129 ≤ c ∧ c ≤ 144 ∧ yhf c ≤ k) → sa c k = ia c k) ∧ sa 127 2 = 0
def yHv (m : Nat) (X G : Nat → Nat → Int32) : Prop := ∀ a q, G a q = if 129 ≤ a ∧ a < m ∧ q < yhf a then X a (yhf a + q) else X a q
section ZP
variable {d pl dr n n0 : Nat} {cp cw rp : Option Nat} {b : Nat → Nat} {ia sa : Nat → Nat → Int32} {la : Nat → Nat → Int64} {K : Option Value → zHP → Prop}
theorem S_halfH {m : Nat} {X G : Nat → Nat → Int32} (hm : 129 ≤ m) (hk : zkd m = 100) (hl : zln m = 2 * yhf m) (hh : yhf m < 1000) (hG : yHv m X G) (hK : ∀ G', yHv (m + 1) X G' → K none (G', la, zRA pl dr cp cw rp)) : zWM d 160 [.ref m] (G, la, zRA pl dr cp cw rp) K := by
  refine S_half hk hl hh (fun ja hja => hK ja (fun a q => ?_))
  rw [hja]
  by_cases e : a = m ∧ q < yhf m
  · rw [if_pos e, hG, if_neg (by omega), if_pos ⟨by omega, by omega, by rw [e.1]; exact e.2⟩, e.1]
  · rw [if_neg e, hG]
    by_cases e2 : 129 ≤ a ∧ a < m ∧ q < yhf a
    · rw [if_pos e2, if_pos ⟨e2.1, by omega, e2.2.2⟩]
    · rw [if_neg e2, if_neg (fun z => by
        by_cases e3 : a = m
        · rw [e3] at z; exact e ⟨e3, z.2.2⟩
        · exact e2 ⟨z.1, by omega, z.2.2⟩)]
theorem N_halves {i1 i2 : Int32} (h26 : sa 127 26 = 0) (h27 : sa 127 27 = -1) (hK : ∀ G, yHv 145 (zu (zu sa 127 28 0) 127 29 (-1)) G → zWP (d + 1) 161 286 [some (.ref 127), some (.int i1), some (.int i2)] [] (G, la, zRA pl dr cp cw rp) K) : zWP (d + 1) 161 149 [some (.ref 127), some (.int i1), some (.int i2)] [] (sa, la, zRA pl dr cp cw rp) K := by
  rw [b161_149, h26, zu_k (show (27 : Nat) ≠ 28 by decide), h27, zu_k (show (26 : Nat) ≠ 29 by decide), zu_k (show (26 : Nat) ≠ 28 by decide), h26, if_pos rfl]
  refine S_halfH (m := 129) (by decide) rfl rfl (by decide) (fun a q => by rw [if_neg (by omega)]) (fun G h => ?_)
  rw [kN, b161_181]
  refine S_halfH (m := 130) (by decide) rfl rfl (by decide) h (fun G h => ?_)
  rw [kN, b161_188]
  refine S_halfH (m := 131) (by decide) rfl rfl (by decide) h (fun G h => ?_)
  rw [kN, b161_195]
  refine S_halfH (m := 132) (by decide) rfl rfl (by decide) h (fun G h => ?_)
  rw [kN, b161_202]
  refine S_halfH (m := 133) (by decide) rfl rfl (by decide) h (fun G h => ?_)
  rw [kN, b161_209]
  refine S_halfH (m := 134) (by decide) rfl rfl (by decide) h (fun G h => ?_)
  rw [kN, b161_216]
  refine S_halfH (m := 135) (by decide) rfl rfl (by decide) h (fun G h => ?_)
  rw [kN, b161_223]
  refine S_halfH (m := 136) (by decide) rfl rfl (by decide) h (fun G h => ?_)
  rw [kN, b161_230]
  refine S_halfH (m := 137) (by decide) rfl rfl (by decide) h (fun G h => ?_)
  rw [kN, b161_237]
  refine S_halfH (m := 138) (by decide) rfl rfl (by decide) h (fun G h => ?_)
  rw [kN, b161_244]
  refine S_halfH (m := 139) (by decide) rfl rfl (by decide) h (fun G h => ?_)
  rw [kN, b161_251]
  refine S_halfH (m := 140) (by decide) rfl rfl (by decide) h (fun G h => ?_)
  rw [kN, b161_258]
  refine S_halfH (m := 141) (by decide) rfl rfl (by decide) h (fun G h => ?_)
  rw [kN, b161_265]
  refine S_halfH (m := 142) (by decide) rfl rfl (by decide) h (fun G h => ?_)
  rw [kN, b161_272]
  refine S_halfH (m := 143) (by decide) rfl rfl (by decide) h (fun G h => ?_)
  rw [kN, b161_279]
  refine S_halfH (m := 144) (by decide) rfl rfl (by decide) h (fun G h => ?_)
  rw [kN]
  exact hK G h
theorem N_text (hn : n ≤ n0) (h7 : n0 ≤ 700) (e2 : ia 127 2 = nI n0) (hb : ∀ j, j < n → b j < 256 ∧ ia 128 j = nI (b j)) (hO : ∀ ln s s8 sa, yTx b n (n + 1) 0 yS0 = .ok (ln, s) → yMLs b n s8 s ln sa → yWf s → yG9 ia sa → zWP (d + 191) 161 149 [some (.ref 127), some (.int (nI n)), some (.int (nI 6))] [] (sa, la, zRA pl dr cp cw rp) K) (hE : ∀ e sa, yTx b n (n + 1) 0 yS0 = .error e → sa 127 26 = nI e.1 → sa 127 27 = nI e.2 → ¬ sa 127 26 = 0 → yG9 ia sa → zWP (d + 191) 161 149 [some (.ref 127), some (.int (nI n)), some (.int (nI 6))] [] (sa, la, zRA pl dr cp cw rp) K) : zWM (d + 191) 161 [.ref 127, .int (nI n)] (ia, la, zRA pl dr cp cw rp) K := by
  have lp7 : ∀ (q j : Nat) (sa : Nat → Nat → Int32), j + q = 6 → (∀ ja : Nat → Nat → Int32, (∀ c k, ja c k = if (c = 141 ∨ c = 142) ∧ j ≤ k ∧ k < 6 then 0 else sa c k) → zWM (d + 190) 133 [.ref 127] (zu (zu (zu (zu ja 127 19 0) 127 20 0) 127 30 0) 127 31 0, la, zRA pl dr cp cw rp) (zK (d + 191) 161 127 [some (.ref 127), some (.int (nI n)), some (.int (nI 6))] [] K)) → zWP (d + 191) 161 77 [some (.ref 127), some (.int (nI n)), some (.int (nI j))] [] (sa, la, zRA pl dr cp cw rp) K := by
    intro q
    induction q with
    | zero =>
      intro j sa hj hK
      obtain rfl : j = 6 := by omega
      rw [b161_77, if_pos (show (6 : Int32) ≤ nI 6 by decide)]
      exact hK sa (fun c k => by rw [if_neg (by omega)])
    | succ q ih =>
      intro j sa hj hK
      rw [b161_77, if_neg (z6le (by omega)), zg (by omega) (by omega), zcln (by omega), ns]
      refine ih (j + 1) _ (by omega) (fun ja hja => hK ja (fun c k => ?_))
      rw [hja, zu_at, zu_at]
      by_cases e : (c = 141 ∨ c = 142) ∧ j ≤ k ∧ k < 6
      · rw [if_pos e]
        by_cases e2 : k = j
        · rw [if_neg (by omega)]
          by_cases e3 : c = 142
          · rw [if_pos ⟨e3, e2⟩]
          · rw [if_neg (fun z => e3 z.1), if_pos ⟨by omega, e2⟩]
        · rw [if_pos (by omega)]
      · rw [if_neg e, if_neg (by omega), if_neg (by omega), if_neg (by omega)]
  have lp4 : ∀ (q j : Nat) (sa : Nat → Nat → Int32), j + q = 7 → (∀ ja : Nat → Nat → Int32, (∀ c k, ja c k = if c = 129 ∧ 7 + j ≤ k ∧ k < 14 then (if k = 10 then 20 else 0) else sa c k) → zWP (d + 191) 161 77 [some (.ref 127), some (.int (nI n)), some (.int (nI 3))] [] (ja, la, zRA pl dr cp cw rp) K) → zWP (d + 191) 161 47 [some (.ref 127), some (.int (nI n)), some (.int (nI j))] [] (sa, la, zRA pl dr cp cw rp) K := by
    intro q
    induction q with
    | zero =>
      intro j sa hj hK
      obtain rfl : j = 7 := by omega
      rw [b161_47, if_pos (show (7 : Int32) ≤ nI 7 by decide)]
      exact hK sa (fun c k => by rw [if_neg (by omega)])
    | succ q ih =>
      intro j sa hj hK
      have nx : ∀ v : Int32, (v = if j = 3 then 20 else 0) → zWP (d + 191) 161 69 [some (.ref 127), some (.int (nI n)), some (.int (nI j))] [] (zu sa 129 (7 + j) v, la, zRA pl dr cp cw rp) K := by
        intro v hv
        rw [b161_69, ns]
        refine ih (j + 1) _ (by omega) (fun ja hja => hK ja (fun c k => ?_))
        rw [hja, zu_at]
        by_cases e : c = 129 ∧ 7 + j ≤ k ∧ k < 14
        · rw [if_pos e]
          by_cases e2 : k = 7 + j
          · rw [if_neg (by omega), if_pos ⟨e.1, e2⟩, hv]
            by_cases e3 : j = 3
            · rw [if_pos e3, if_pos (by omega)]
            · rw [if_neg e3, if_neg (by omega)]
          · rw [if_pos (by omega)]
        · rw [if_neg e, if_neg (by omega), if_neg (by omega)]
      rw [b161_47, if_neg (show ¬ (7 : Int32) ≤ nI j from nI_nle1 (a := 7) (by omega) (by omega))]
      by_cases e3 : j = 3
      · rw [if_neg (show ¬ ¬ nI j = 3 from fun y => y (by rw [e3]; rfl)), S_rds (j := j) rfl (by omega), kN]
        exact nx 20 (by rw [if_pos e3])
      · rw [if_pos (show ¬ nI j = 3 from fun y => e3 ((nI_eq (b := 3) (by omega) (by omega)).mp y)), S_rds (j := j) rfl (by omega), kN]
        exact nx 0 (by rw [if_neg e3])
  rw [e161, b161_0, if_neg (nI_pos (by omega)), zu_k (show (2 : Nat) ≠ 0 by decide), e2, if_pos (nI_le1 hn (by omega))]
  refine lp4 7 0 _ (by omega) (fun j1 h1 => ?_)
  refine lp7 3 3 _ (by omega) (fun j2 h2 => ?_)
  generalize hs8 : zu (zu (zu (zu j2 127 19 0) 127 20 0) 127 30 0) 127 31 0 = s8
  have c7 : ∀ k, s8 127 k = if k = 31 then 0 else if k = 30 then 0 else if k = 20 then 0 else if k = 19 then 0 else if k = 27 then -1 else if k = 26 then 0 else if k = 22 then 0 else if k = 2 then 0 else if k = 21 then nI n else if k = 0 then 0 else ia 127 k := by
    intro k
    have j7 : j2 127 k = if k = 27 then -1 else if k = 26 then 0 else if k = 22 then 0 else if k = 2 then 0 else if k = 21 then nI n else if k = 0 then 0 else ia 127 k := by
      rw [h2, if_neg (by omega), h1, if_neg (by omega), zu_at, zu_at, zu_at, zu_at, zu_at, zu_at]
      simp only [true_and]
    rw [← hs8, zu_at, zu_at, zu_at, zu_at, j7]
    simp only [true_and]
  have co : ∀ c k, c ≠ 127 → s8 c k = if (c = 141 ∨ c = 142) ∧ 3 ≤ k ∧ k < 6 then 0 else if c = 129 ∧ 7 + 0 ≤ k ∧ k < 14 then (if k = 10 then 20 else 0) else ia c k := by
    intro c k hc
    rw [← hs8, zu_o hc, zu_o hc, zu_o hc, zu_o hc, h2, h1, zu_o hc, zu_o hc, zu_o hc, zu_o hc, zu_o hc, zu_o hc]
  have rr : zRr b n 0 s8 := ⟨by omega, by omega, by rw [c7]; rfl, by rw [c7]; rfl, fun j hj => ⟨(hb j hj).1, by rw [co 128 j (by decide), if_neg (by omega), if_neg (by omega)]; exact (hb j hj).2⟩⟩
  have t2 := (yt_f (fun j hj => (hb j hj).1) (Nat.zero_le n)).2.1
  refine S_tok (d := d + 182) rr (fun ja g1 g2 g3 g4 => ?_)
  have q7 : ∀ k, k < 22 ∨ 25 < k → ja 127 k = s8 127 k := fun k hk => g1 127 k (by omega)
  have qo : ∀ c k, c ≠ 127 → ja c k = s8 c k := fun c k hc => g1 c k (by omega)
  have to0 : yTo b n 0 ja := ⟨Nat.zero_le _, ⟨by omega, t2, by rw [q7 21 (by omega)]; exact rr.2.2.1, g2, fun j hj => ⟨(hb j hj).1, by rw [qo 128 j (by decide)]; exact (rr.2.2.2.2 j hj).2⟩⟩, g3, g4⟩
  have f8 : ∀ sa, yFm s8 sa → yG9 ia sa := by
    intro sa hf
    refine ⟨fun c k q1 q2 => ?_, ?_⟩
    · rw [hf c k (by
        rintro (z | z)
        · exact q1 ⟨z.1, Or.inr (Or.inr ⟨z.2.1, z.2.2.1, z.2.2.2.2.1, z.2.2.2.2.2⟩)⟩
        · exact q2 z)]
      by_cases e : c = 127
      · subst e
        have q1 : ¬ (k = 0 ∨ k = 2 ∨ (19 ≤ k ∧ k ≤ 31 ∧ k ≠ 28 ∧ k ≠ 29)) := fun z => q1 ⟨rfl, z⟩
        rw [c7, if_neg (by omega), if_neg (by omega), if_neg (by omega), if_neg (by omega), if_neg (by omega), if_neg (by omega), if_neg (by omega), if_neg (by omega), if_neg (by omega), if_neg (by omega)]
      · rw [co c k e, if_neg (fun z => q2 ⟨by omega, by omega, by rcases z.1 with z1 | z1 <;> rw [z1] <;> exact z.2.1⟩), if_neg (fun z => q2 ⟨by omega, by omega, by rw [z.1]; exact z.2.1⟩)]
    · rw [hf 127 2 (by rintro (z | z) <;> omega), c7]; rfl
  have hml : yMLs b n s8 yS0 0 ja := by
    refine ⟨to0, by rw [q7 26 (by omega), c7]; rfl, by rw [q7 27 (by omega), c7]; rfl, ⟨0, by rw [q7 19 (by omega), c7]; rfl, ⟨by decide, fun j _ => (Nat.zero_testBit _).trans (Nat.zero_testBit _).symm, fun j _ => (Nat.zero_testBit _).trans (Nat.zero_testBit _).symm⟩⟩, by rw [q7 20 (by omega), c7]; rfl, by rw [q7 30 (by omega), c7]; rfl, by rw [q7 31 (by omega), c7]; rfl, ?_, ?_, ?_, ?_, fun g k hg => ?_, fun j hj => absurd hj (Nat.not_lt_zero _), fun c k hn => g1 c k (fun z => hn (Or.inl ⟨z.1, by omega, by omega, by omega, by omega, by omega⟩))⟩
    · rw [qo 129 7 (by decide), co 129 7 (by decide), if_neg (by omega), if_pos (by omega), if_neg (by omega)]; rfl
    · rw [qo 129 8 (by decide), co 129 8 (by decide), if_neg (by omega), if_pos (by omega), if_neg (by omega)]; rfl
    · rw [qo 129 9 (by decide), co 129 9 (by decide), if_neg (by omega), if_pos (by omega), if_neg (by omega)]; rfl
    · rw [qo 129 13 (by decide), co 129 13 (by decide), if_neg (by omega), if_pos (by omega), if_neg (by omega)]; rfl
    · have hg : 28 ≤ g ∧ g ≤ 30 ∧ k < 3 := by
        rcases hg with z | z | z | z | z | z
        · exact absurd z.2 (Nat.not_lt_zero _)
        · exact absurd z.2 (Nat.not_lt_zero _)
        · exact absurd z.2 (Nat.not_lt_zero _)
        · have z2 : g < 5 + 0 := z.2.1; omega
        · have z2 : g < 16 + 0 := z.2.1; omega
        · exact z
      have hd : yDok g k := Or.inr (Or.inr (Or.inr (Or.inr (Or.inr hg))))
      refine ⟨hd, ?_⟩
      show _ = nI (if g = 28 ∧ k = 0 then 20 else 0)
      rw [qo _ _ (by have := (ymc_o hd).1; omega), co _ _ (by have := (ymc_o hd).1; omega)]
      have hg3 : g = 28 ∨ g = 29 ∨ g = 30 := by omega
      rcases hg3 with rfl | rfl | rfl
      · rw [show ymc1 28 k = 129 from rfl, show ymc2 28 k = 10 + k from rfl, if_neg (by omega), if_pos (by omega)]
        by_cases k0 : k = 0
        · rw [if_pos (by omega), if_pos ⟨rfl, k0⟩]; rfl
        · rw [if_neg (by omega), if_neg (fun z => k0 z.2)]; rfl
      · rw [show ymc1 29 k = 141 from rfl, show ymc2 29 k = 3 + k from rfl, if_pos (by omega), if_neg (by omega)]; rfl
      · rw [show ymc1 30 k = 142 from rfl, show ymc2 30 k = 3 + k from rfl, if_pos (by omega), if_neg (by omega)]; rfl
  rw [kN]
  exact N_read (n + 1) 0 yS0 ja (by show n < 0 + (n + 1); omega) hml yWf_0 (fun ln s sa z1 z2 z3 => hO ln s s8 sa z1 z2 z3 (f8 sa z2.2.2.2.2.2.2.2.2.2.2.2.2.2)) (fun e sa z1 z3 => hE e sa z1 z3.1 z3.2.1 (yMe_n z3) (f8 sa z3.2.2.2))
end ZP
