/-! a token of the class -/
/-- a sign: its kind, and what comes behind it -/
def zSn (b : Nat → Nat) (n p : Nat) : Nat × Nat :=
  if b p = 60 ∧ p + 1 < n ∧ b (p + 1) = 61 then (8, p + 2) else
  if b p = 60 ∧ p + 1 < n ∧ b (p + 1) = 62 then (10, p + 2) else
  if b p = 62 ∧ p + 1 < n ∧ b (p + 1) = 61 then (11, p + 2) else (zsk1 (b p), p + 1)
/-- which word of the language -/
def zKw (x : Nat) : Int32 := zfd (fun k => nI (zLw.getD k 0)) (nI x) 20 0
def zTp (b : Nat → Nat) (n i : Nat) : Nat := zrnx zspc b n n i
def zTn (b : Nat → Nat) (n i : Nat) : Nat := if n ≤ zTp b n i then zTp b n i else if zsml (b (zTp b n i)) = true then zrnx zsml b n n (zTp b n i) else if zdig (b (zTp b n i)) = true then zrnx zdig b n n (zTp b n i) else (zSn b n (zTp b n i)).2
def zTk (b : Nat → Nat) (n i : Nat) : Int32 := if n ≤ zTp b n i then 0 else if zsml (b (zTp b n i)) = true then (if zrnx zsml b n n (zTp b n i) - zTp b n i ≤ 6 then (if zKw (zpv b (zTp b n i) (zrnx zsml b n n (zTp b n i) - zTp b n i)) = -1 then 3 else 20 + zKw (zpv b (zTp b n i) (zrnx zsml b n n (zTp b n i) - zTp b n i))) else 1) else if zdig (b (zTp b n i)) = true then 2 else nI (zSn b n (zTp b n i)).1
def zTv (b : Nat → Nat) (n i : Nat) : Nat := if n ≤ zTp b n i then 0 else if zsml (b (zTp b n i)) = true then zpv b (zTp b n i) (zrnx zsml b n n (zTp b n i) - zTp b n i) else if zdig (b (zTp b n i)) = true then zcnv b (zTp b n i) (zrnx zdig b n n (zTp b n i) - zTp b n i) else 0
section ZP
variable {d pl dr n : Nat} {cp cw rp : Option Nat} {b : Nat → Nat} {ia sa : Nat → Nat → Int32} {la : Nat → Nat → Int64} {K : Option Value → zHP → Prop}
theorem S_rsign {p : Nat} (hpn : p < n) (hr : zRd b n p sa) (hK : ∀ ja : Nat → Nat → Int32, (∀ c k, ja c k = if c = 2 ∧ k = 4 then nI (zSn b n p).2 else if c = 2 ∧ k = 5 then nI (zSn b n p).1 else sa c k) → K none (ja, la, zRA pl dr cp cw rp)) : zWM (d + 1) 65 [.ref 2] (sa, la, zRA pl dr cp cw rp) K := by
  obtain ⟨h7, hp, e3, e4, eb⟩ := hr
  obtain ⟨q1, q2⟩ := eb p hpn
  have z : ∀ k : Nat, k < 128 → (zcb (b p) = nI k ↔ b p = k) := fun k hk => zcb_eq q1 hk
  rw [e65, b65_0, e4, zg (by omega) (by omega), zcln (by omega), ns, zu_eq, zu_k (show (3 : Nat) ≠ 4 by decide), e3, zu_o (show (3 : Nat) ≠ 2 by decide), q2]
  -- two signs in one
  have two : ∀ (k j : Nat), zSn b n p = (k, p + 2) → K none (zu (zu (zu sa 2 4 (nI (p + 1))) 2 5 (nI k)) 2 4 (zu (zu sa 2 4 (nI (p + 1))) 2 5 (nI k) 2 4 + 1), la, zRA pl dr cp cw rp) := by
    intro k j e
    rw [e] at hK
    refine hK _ (fun c i => ?_)
    rw [zu_k (show (4 : Nat) ≠ 5 by decide), zu_eq, ns, zu_at, zu_at, zu_at]
    by_cases c4 : c = 2 ∧ i = 4
    · rw [if_pos c4, if_pos c4]
    · rw [if_neg c4, if_neg c4, if_neg c4]
  have one : zSn b n p = (zsk1 (b p), p + 1) → ∀ s0 : Int32, zWM d 66 [.int (zcb (b p))] (zu sa 2 4 (nI (p + 1)), la, zRA pl dr cp cw rp) (zK (d + 1) 65 144 [some (.ref 2), some (.int (zcb (b p))), some (.int s0)] [.ref 2] K) := by
    intro e s0
    rw [e] at hK
    rw [S_ks q1, kS, b65_144]
    refine hK _ (fun c i => ?_)
    rw [zu_at, zu_at]
    by_cases c4 : c = 2 ∧ i = 4
    · rw [if_neg (by omega), if_pos c4, if_pos c4]
    · rw [if_neg c4, if_neg c4]
  have rest : ∀ s0 : Int32, (s0 = 61 ↔ (p + 1 < n ∧ b (p + 1) = 61)) → (s0 = 62 ↔ (p + 1 < n ∧ b (p + 1) = 62)) → zWP (d + 1) 65 45 [some (.ref 2), some (.int (zcb (b p))), none] [.int s0] (zu sa 2 4 (nI (p + 1)), la, zRA pl dr cp cw rp) K := by
    intro s0 h61 h62
    have n60 : (zcb (b p) = 60) ↔ b p = 60 := z 60 (by omega)
    have n62 : (zcb (b p) = 62) ↔ b p = 62 := z 62 (by omega)
    have uS : zSn b n p = if b p = 60 ∧ p + 1 < n ∧ b (p + 1) = 61 then (8, p + 2) else if b p = 60 ∧ p + 1 < n ∧ b (p + 1) = 62 then (10, p + 2) else if b p = 62 ∧ p + 1 < n ∧ b (p + 1) = 61 then (11, p + 2) else (zsk1 (b p), p + 1) := rfl
    rw [b65_45]
    by_cases a : b p = 60
    · rw [if_neg (show ¬ ¬ zcb (b p) = 60 from fun y => y (n60.mpr a))]
      have a62 : ¬ b p = 62 := by omega
      by_cases b1 : s0 = 61
      · rw [if_neg (show ¬ ¬ s0 = 61 from fun y => y b1)]
        exact two 8 0 (by rw [uS, if_pos ⟨a, h61.mp b1⟩])
      · rw [if_pos (show ¬ s0 = 61 from b1), b65_77, if_neg (show ¬ ¬ zcb (b p) = 60 from fun y => y (n60.mpr a))]
        have c1 : ¬ (b p = 60 ∧ p + 1 < n ∧ b (p + 1) = 61) := fun y => b1 (h61.mpr y.2)
        by_cases b2 : s0 = 62
        · rw [if_neg (show ¬ ¬ s0 = 62 from fun y => y b2)]
          exact two 10 0 (by rw [uS, if_neg c1, if_pos ⟨a, h62.mp b2⟩])
        · rw [if_pos (show ¬ s0 = 62 from b2), b65_108, if_pos (show ¬ zcb (b p) = 62 from fun y => a62 (n62.mp y))]
          exact one (by rw [uS, if_neg c1, if_neg (fun y => b2 (h62.mpr y.2)), if_neg (fun y => a62 y.1)]) s0
    · have c1 : ¬ (b p = 60 ∧ p + 1 < n ∧ b (p + 1) = 61) := fun y => a y.1
      have c2 : ¬ (b p = 60 ∧ p + 1 < n ∧ b (p + 1) = 62) := fun y => a y.1
      rw [if_pos (show ¬ zcb (b p) = 60 from fun y => a (n60.mp y)), b65_77, if_pos (show ¬ zcb (b p) = 60 from fun y => a (n60.mp y)), b65_108]
      by_cases a2 : b p = 62
      · rw [if_neg (show ¬ ¬ zcb (b p) = 62 from fun y => y (n62.mpr a2))]
        by_cases b1 : s0 = 61
        · rw [if_neg (show ¬ ¬ s0 = 61 from fun y => y b1)]
          exact two 11 0 (by rw [uS, if_neg c1, if_neg c2, if_pos ⟨a2, h61.mp b1⟩])
        · rw [if_pos (show ¬ s0 = 61 from b1)]
          exact one (by rw [uS, if_neg c1, if_neg c2, if_neg (fun y => b1 (h61.mpr y.2))]) s0
      · rw [if_pos (show ¬ zcb (b p) = 62 from fun y => a2 (n62.mp y))]
        exact one (by rw [uS, if_neg c1, if_neg c2, if_neg (fun y => a2 y.1)]) s0
  by_cases c : p + 1 < n
  · obtain ⟨q3, q4⟩ := eb (p + 1) c
    rw [if_neg (nI_nle1 c (by omega)), zg (by omega) (by omega), zcln (by omega), q4]
    refine rest _ ?_ ?_
    · rw [show (61 : Int32) = nI 61 from rfl, zcb_eq q3 (by omega)]
      exact ⟨fun y => ⟨c, y⟩, fun y => y.2⟩
    · rw [show (62 : Int32) = nI 62 from rfl, zcb_eq q3 (by omega)]
      exact ⟨fun y => ⟨c, y⟩, fun y => y.2⟩
  · rw [if_pos (nI_le1 (by omega) (by omega))]
    exact rest 32 ⟨fun y => absurd y (by decide), fun y => absurd y.1 c⟩ ⟨fun y => absurd y (by decide), fun y => absurd y.1 c⟩
theorem S_adv {i : Nat} (hL : zLang sa) (hr : zRd b n i sa) (hK : ∀ ja : Nat → Nat → Int32, (∀ c k, ja c k = if c = 2 ∧ k = 4 then nI (zTn b n i) else if c = 2 ∧ k = 5 then zTk b n i else if c = 2 ∧ k = 6 then nI (zTp b n i) else if c = 2 ∧ k = 7 then nI (zTv b n i) else sa c k) → K none (ja, la, zRA pl dr cp cw rp)) : zWM (d + 2) 59 [.ref 2] (sa, la, zRA pl dr cp cw rp) K := by
  have kw : ∀ x, zfd (sa 4) (nI x) 20 0 = zKw x := fun x => zfd_e 20 0 (fun j _ hj => hL j (by omega))
  rw [e59, S_skip n i sa (by omega) hr]
  obtain ⟨w1, w2, w3⟩ := zrnx_b (P := zspc) (b := b) n i hr.2.1
  have hr2 := zRd_n hr w2
  have uN : zTn b n i = if n ≤ zTp b n i then zTp b n i else if zsml (b (zTp b n i)) = true then zrnx zsml b n n (zTp b n i) else if zdig (b (zTp b n i)) = true then zrnx zdig b n n (zTp b n i) else (zSn b n (zTp b n i)).2 := rfl
  have uK : zTk b n i = if n ≤ zTp b n i then 0 else if zsml (b (zTp b n i)) = true then (if zrnx zsml b n n (zTp b n i) - zTp b n i ≤ 6 then (if zKw (zpv b (zTp b n i) (zrnx zsml b n n (zTp b n i) - zTp b n i)) = -1 then 3 else 20 + zKw (zpv b (zTp b n i) (zrnx zsml b n n (zTp b n i) - zTp b n i))) else 1) else if zdig (b (zTp b n i)) = true then 2 else nI (zSn b n (zTp b n i)).1 := rfl
  have uV : zTv b n i = if n ≤ zTp b n i then 0 else if zsml (b (zTp b n i)) = true then zpv b (zTp b n i) (zrnx zsml b n n (zTp b n i) - zTp b n i) else if zdig (b (zTp b n i)) = true then zcnv b (zTp b n i) (zrnx zdig b n n (zTp b n i) - zTp b n i) else 0 := rfl
  rw [uN, uK, uV] at hK
  change i ≤ zTp b n i at w1
  change zTp b n i ≤ n at w2
  change zRd b n (zTp b n i) (zu sa 2 4 (nI (zTp b n i))) at hr2
  show zWP (d + 2) 59 52 [some (.ref 2)] [] (zu sa 2 4 (nI (zTp b n i)), la, zRA pl dr cp cw rp) K
  generalize zTp b n i = p at *
  obtain ⟨h7, _, e3, e4, eb⟩ := hr2
  rw [b59_52, e4]
  generalize hs1 : zu (zu (zu sa 2 4 (nI p)) 2 6 (nI p)) 2 7 0 = s1
  have s1c : ∀ c k, s1 c k = if c = 2 ∧ k = 7 then 0 else if c = 2 ∧ k = 6 then nI p else if c = 2 ∧ k = 4 then nI p else sa c k := fun c k => by rw [← hs1, zu_at, zu_at, zu_at]
  have f4 : s1 2 4 = nI p := by rw [s1c, if_neg (by omega), if_neg (by omega), if_pos ⟨rfl, rfl⟩]
  have f3 : s1 2 3 = nI n := by rw [s1c, if_neg (by omega), if_neg (by omega), if_neg (by omega)]; exact hr.2.2.1
  have f7 : s1 2 7 = 0 := by rw [s1c, if_pos ⟨rfl, rfl⟩]
  have fb : s1 3 = sa 3 := by funext k; rw [s1c, if_neg (by omega), if_neg (by omega), if_neg (by omega)]
  have fl : s1 4 = sa 4 := by funext k; rw [s1c, if_neg (by omega), if_neg (by omega), if_neg (by omega)]
  have hr1 : zRd b n p s1 := ⟨h7, w2, f3, f4, fun j hj => ⟨(hr.2.2.2.2 j hj).1, by rw [fb]; exact (hr.2.2.2.2 j hj).2⟩⟩
  rw [f4, f3]
  by_cases c : n ≤ p
  · rw [if_neg (nI_nlt c (by omega))]
    refine hK _ (fun c' k => ?_)
    rw [if_pos c, if_pos c, if_pos c, zu_at, s1c]
    by_cases k4 : c' = 2 ∧ k = 4
    · rw [if_neg (by omega), if_neg (by omega), if_neg (by omega), if_pos k4, if_pos k4]
    rw [if_neg k4, if_neg k4]
    by_cases k5 : c' = 2 ∧ k = 5
    · rw [if_pos k5, if_pos k5]
    rw [if_neg k5, if_neg k5]
    by_cases k6 : c' = 2 ∧ k = 6
    · rw [if_neg (by omega), if_pos k6, if_pos k6]
    rw [if_neg k6, if_neg k6]
    by_cases k7 : c' = 2 ∧ k = 7
    · rw [if_pos k7, if_pos k7]; rfl
    rw [if_neg k7, if_neg k7]
  · have hpn : p < n := by omega
    obtain ⟨q1, q2⟩ := hr1.2.2.2.2 p hpn
    rw [if_pos (nI_lt hpn (by omega)), zg (by omega) (by omega), zcln (by omega), q2, S_smC q1, kS, b59_96]
    rw [if_neg c, if_neg c, if_neg c] at hK
    by_cases cs : zsml (b p) = true
    · rw [if_pos cs, if_neg (by decide)]
      rw [if_pos cs, if_pos cs, if_pos cs] at hK
      refine S_rword f7 hr1 (fun ja hja => ?_)
      rw [kN, b59_103]
      refine hK ja (fun c' k => ?_)
      rw [hja, fl, kw, s1c]
      by_cases k4 : c' = 2 ∧ k = 4
      · simp only [if_pos k4]
      simp only [if_neg k4]
      by_cases k7 : c' = 2 ∧ k = 7
      · simp only [if_pos k7, if_neg (show ¬ (c' = 2 ∧ k = 5) by omega), if_neg (show ¬ (c' = 2 ∧ k = 6) by omega)]
      simp only [if_neg k7]
    · rw [if_neg cs, if_pos rfl, f4, zg (by omega) (by omega), zcln (by omega), q2, S_dgC q1, kS, b59_118]
      rw [if_neg cs, if_neg cs, if_neg cs] at hK
      by_cases cd : zdig (b p) = true
      · rw [if_pos cd, if_neg (by decide)]
        rw [if_pos cd, if_pos cd, if_pos cd] at hK
        refine S_rnum f7 hr1 (fun ja hja => ?_)
        rw [kN, b59_125]
        refine hK ja (fun c' k => ?_)
        rw [hja, s1c]
        by_cases k4 : c' = 2 ∧ k = 4
        · simp only [if_pos k4]
        simp only [if_neg k4]
        by_cases k7 : c' = 2 ∧ k = 7
        · simp only [if_pos k7, if_neg (show ¬ (c' = 2 ∧ k = 5) by omega), if_neg (show ¬ (c' = 2 ∧ k = 6) by omega)]
        simp only [if_neg k7]
      · rw [if_neg cd, if_pos rfl]
        rw [if_neg cd, if_neg cd, if_neg cd] at hK
        refine S_rsign hpn hr1 (fun ja hja => ?_)
        rw [kN, b59_132]
        refine hK ja (fun c' k => ?_)
        rw [hja, s1c]
        by_cases k4 : c' = 2 ∧ k = 4
        · simp only [if_pos k4]
        simp only [if_neg k4]
        by_cases k5 : c' = 2 ∧ k = 5
        · simp only [if_pos k5]
        simp only [if_neg k5]
        by_cases k7 : c' = 2 ∧ k = 7
        · simp only [if_pos k7, if_neg (show ¬ (c' = 2 ∧ k = 6) by omega)]; rfl
        simp only [if_neg k7]
end ZP
