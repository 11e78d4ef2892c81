/-! a token of the reference, whole -/
section ZP
variable {d pl dr n : Nat} {cp cw rp : Option Nat} {b : Nat → Nat} {ia sa : Nat → Nat → Int32} {la : Nat → Nat → Int64} {K : Option Value → zHP → Prop}
theorem S_sg0 {v : Nat} (hv : v < 256) : zWP d 134 0 [some (.ref 127), some (.int (nI v))] [] (sa, la, zRA pl dr cp cw rp) K = zWP d 134 76 [some (.ref 127), some (.int (nI v))] [.int (if zsk1 v = 1 then 5 else 3), .ref 127] (zu sa 127 22 (sa 127 22 + 1), la, zRA pl dr cp cw rp) K := by
  have z : ∀ k : Nat, k < 128 → (nI v = nI k) = (v = k) := fun k hk => propext (nI_eq (by omega) (by omega))
  rw [b134_0, show (40 : Int32) = nI 40 from rfl, show (41 : Int32) = nI 41 from rfl, show (42 : Int32) = nI 42 from rfl, show (43 : Int32) = nI 43 from rfl, show (45 : Int32) = nI 45 from rfl, show (47 : Int32) = nI 47 from rfl, show (59 : Int32) = nI 59 from rfl, show (60 : Int32) = nI 60 from rfl, show (61 : Int32) = nI 61 from rfl, show (62 : Int32) = nI 62 from rfl]
  simp only [z 40 (by decide), z 41 (by decide), z 42 (by decide), z 43 (by decide), z 45 (by decide), z 47 (by decide), z 59 (by decide), z 60 (by decide), z 61 (by decide), z 62 (by decide), b134_71]
  by_cases c : v = 59
  · subst c; rfl
  rw [if_neg c]
  by_cases c1 : v = 40
  · subst c1; rfl
  rw [if_neg c1]
  by_cases c2 : v = 41
  · subst c2; rfl
  rw [if_neg c2]
  by_cases c3 : v = 43
  · subst c3; rfl
  rw [if_neg c3]
  by_cases c4 : v = 45
  · subst c4; rfl
  rw [if_neg c4]
  by_cases c5 : v = 42
  · subst c5; rfl
  rw [if_neg c5]
  by_cases c6 : v = 47
  · subst c6; rfl
  rw [if_neg c6]
  by_cases c7 : v = 60
  · subst c7; rfl
  rw [if_neg c7]
  by_cases c8 : v = 61
  · subst c8; rfl
  rw [if_neg c8]
  by_cases c9 : v = 62
  · subst c9; rfl
  rw [if_pos c9]
  have : zsk1 v = 1 := by
    unfold zsk1
    rw [if_neg c1, if_neg c2, if_neg c5, if_neg c3, if_neg c4, if_neg c6, if_neg c, if_neg c7, if_neg c8, if_neg c9]
  rw [if_pos this]
theorem zsk1_r {v : Nat} (h : ¬ zsk1 v = 1) : 4 ≤ zsk1 v ∧ zsk1 v ≤ 16 ∧ nI v = zsc (zsk1 v) := by
  revert h
  unfold zsk1
  by_cases c1 : v = 40
  · subst c1; decide
  rw [if_neg c1]
  by_cases c2 : v = 41
  · subst c2; decide
  rw [if_neg c2]
  by_cases c3 : v = 42
  · subst c3; decide
  rw [if_neg c3]
  by_cases c4 : v = 43
  · subst c4; decide
  rw [if_neg c4]
  by_cases c5 : v = 45
  · subst c5; decide
  rw [if_neg c5]
  by_cases c6 : v = 47
  · subst c6; decide
  rw [if_neg c6]
  by_cases c7 : v = 59
  · subst c7; decide
  rw [if_neg c7]
  by_cases c8 : v = 60
  · subst c8; decide
  rw [if_neg c8]
  by_cases c9 : v = 61
  · subst c9; decide
  rw [if_neg c9]
  by_cases c10 : v = 62
  · subst c10; decide
  rw [if_neg c10]
  intro h; exact absurd rfl h
theorem S_sgR {p : Nat} (hpn : p < n) (hr : zRr b n p sa) (hK : ∀ ja : Nat → Nat → Int32, (∀ c k, ¬ (c = 127 ∧ (k = 22 ∨ k = 24 ∨ k = 25)) → ja c k = sa c k) → ja 127 22 = nI (zSn b n p).2 → zTR (zSn b n p).1 0 (ja 127 24) (ja 127 25) → K none (ja, la, zRA pl dr cp cw rp)) : zWM (d + 1) 134 [.ref 127, .int (nI (b p))] (sa, la, zRA pl dr cp cw rp) K := by
  have hb : b p < 256 := (hr.2.2.2.2 p hpn).1
  have uS : zSn b n p = if b p = 60 ∧ p + 1 < n ∧ b (p + 1) = 61 then (8, p + 2) else if b p = 60 ∧ p + 1 < n ∧ b (p + 1) = 62 then (10, p + 2) else if b p = 62 ∧ p + 1 < n ∧ b (p + 1) = 61 then (11, p + 2) else (zsk1 (b p), p + 1) := rfl
  rw [e134, S_sg0 hb, hr.2.2.2.1, ns, b134_76]
  have n60 : (nI (b p) = 60) ↔ (b p = 60) := nI_eq (b := 60) (by omega) (by omega)
  have n62 : (nI (b p) = 62) ↔ (b p = 62) := nI_eq (b := 62) (by omega) (by omega)
  generalize hs2 : zu (zu (zu sa 127 22 (nI (p + 1))) 127 24 (if zsk1 (b p) = 1 then 5 else 3)) 127 25 (nI (b p)) = s2
  have hr2 : zRr b n (p + 1) s2 := by rw [← hs2]; exact zRr_k (zRr_k (zRr_n hr (by omega)) (by decide) (by decide)) (by decide) (by decide)
  have s2c : ∀ c k, s2 c k = if c = 127 ∧ k = 25 then nI (b p) else if c = 127 ∧ k = 24 then (if zsk1 (b p) = 1 then 5 else 3) else if c = 127 ∧ k = 22 then nI (p + 1) else sa c k := fun c k => by rw [← hs2, zu_at, zu_at, zu_at]
  have h61 := zhr_e (k := 61) hr2 (by omega)
  have h62 := zhr_e (k := 62) hr2 (by omega)
  have v25 : s2 127 25 = nI (b p) := by rw [s2c, if_pos ⟨rfl, rfl⟩]
  have v22 : s2 127 22 = nI (p + 1) := hr2.2.2.2.1
  have v24 : s2 127 24 = if zsk1 (b p) = 1 then 5 else 3 := by rw [s2c, if_neg (by omega), if_pos ⟨rfl, rfl⟩]
  have one : zSn b n p = (zsk1 (b p), p + 1) → zWP (d + 1) 134 150 [some (.ref 127), some (.int (nI (b p)))] [] (s2, la, zRA pl dr cp cw rp) K := by
    intro e
    rw [e] at hK
    rw [b134_150, v25, if_pos (show nI (b p) < 256 from nI_lt (b := 256) hb (by omega))]
    refine hK _ (fun c k hc => ?_) v22 ?_
    · rw [s2c, if_neg (by omega), if_neg (by omega), if_neg (by omega)]
    · rw [v24, v25]
      by_cases c1 : zsk1 (b p) = 1
      · rw [if_pos c1]; exact Or.inr (Or.inl ⟨c1, rfl⟩)
      · obtain ⟨a1, a2, a3⟩ := zsk1_r c1
        rw [if_neg c1]; exact Or.inr (Or.inr (Or.inr (Or.inr (Or.inl ⟨a1, a2, rfl, a3⟩))))
  have two : ∀ (k : Nat) (u : Int32), (k = 8 ∧ u = 256) ∨ (k = 10 ∧ u = 257) ∨ (k = 11 ∧ u = 258) → ¬ zsk1 (b p) = 1 → zSn b n p = (k, p + 2) → zWP (d + 1) 134 150 [some (.ref 127), some (.int (nI (b p)))] [] (zu s2 127 25 u, la, zRA pl dr cp cw rp) K := by
    intro k u hk c1 e
    rw [e] at hK
    have hu : ¬ u < 256 := by rcases hk with h | h | h <;> rw [h.2] <;> decide
    rw [b134_150, zu_eq, if_neg hu, zu_k (by decide), v22, ns]
    refine hK _ (fun c k hc => ?_) (zu_eq _ _ _ _) ?_
    · rw [zu_at, if_neg (by omega), zu_at, if_neg (by omega), s2c, if_neg (by omega), if_neg (by omega), if_neg (by omega)]
    · rw [zu_k (by decide), zu_k (by decide), v24, if_neg c1, zu_k (by decide), zu_eq]
      refine Or.inr (Or.inr (Or.inr (Or.inr (Or.inl ⟨?_, ?_, rfl, ?_⟩))))
      · rcases hk with h | h | h <;> omega
      · rcases hk with h | h | h <;> omega
      · show u = zsc k
        rcases hk with h | h | h <;> rw [h.1, h.2] <;> decide
  by_cases a : b p = 60
  · have c1 : ¬ zsk1 (b p) = 1 := by rw [a]; decide
    have a62 : ¬ b p = 62 := by omega
    rw [if_neg (show ¬ ¬ nI (b p) = 60 from fun y => y (n60.mpr a)), S_here hr2, kS, b134_94]
    have go : ∀ s3 : Nat → Nat → Int32, zRr b n (p + 1) s3 → (zhr b n (p + 1) = 62 → zWP (d + 1) 134 150 [some (.ref 127), some (.int (nI (b p)))] [] (zu s3 127 25 257, la, zRA pl dr cp cw rp) K) → (¬ zhr b n (p + 1) = 62 → zWP (d + 1) 134 150 [some (.ref 127), some (.int (nI (b p)))] [] (s3, la, zRA pl dr cp cw rp) K) → zWP (d + 1) 134 106 [some (.ref 127), some (.int (nI (b p)))] [] (s3, la, zRA pl dr cp cw rp) K := by
      intro s3 hr3 g1 g2
      rw [b134_106, if_neg (show ¬ ¬ nI (b p) = 60 from fun y => y (n60.mpr a)), S_here hr3, kS, b134_116]
      by_cases b2 : zhr b n (p + 1) = 62
      · rw [if_neg (fun y => y b2), b134_128, if_pos (show ¬ nI (b p) = 62 from fun y => a62 (n62.mp y))]; exact g1 b2
      · rw [if_pos b2, b134_128, if_pos (show ¬ nI (b p) = 62 from fun y => a62 (n62.mp y))]; exact g2 b2
    by_cases b1 : zhr b n (p + 1) = 61
    · rw [if_neg (fun y => y b1)]
      refine go _ (zRr_k hr2 (by decide) (by decide)) (fun y => absurd (b1.symm.trans y) (by decide)) (fun _ => ?_)
      exact two 8 256 (Or.inl ⟨rfl, rfl⟩) c1 (by rw [uS, if_pos ⟨a, h61.mp b1⟩])
    · rw [if_pos b1]
      have k1 : ¬ (b p = 60 ∧ p + 1 < n ∧ b (p + 1) = 61) := fun y => b1 (h61.mpr y.2)
      refine go _ hr2 (fun b2 => ?_) (fun b2 => ?_)
      · exact two 10 257 (Or.inr (Or.inl ⟨rfl, rfl⟩)) c1 (by rw [uS, if_neg k1, if_pos ⟨a, h62.mp b2⟩])
      · exact one (by rw [uS, if_neg k1, if_neg (fun y => b2 (h62.mpr y.2)), if_neg (fun y => a62 y.1)])
  · have k1 : ¬ (b p = 60 ∧ p + 1 < n ∧ b (p + 1) = 61) := fun y => a y.1
    have k2 : ¬ (b p = 60 ∧ p + 1 < n ∧ b (p + 1) = 62) := fun y => a y.1
    rw [if_pos (show ¬ nI (b p) = 60 from fun y => a (n60.mp y)), b134_106, if_pos (show ¬ nI (b p) = 60 from fun y => a (n60.mp y)), b134_128]
    by_cases a2 : b p = 62
    · have c1 : ¬ zsk1 (b p) = 1 := by rw [a2]; decide
      rw [if_neg (show ¬ ¬ nI (b p) = 62 from fun y => y (n62.mpr a2)), S_here hr2, kS, b134_138]
      by_cases b1 : zhr b n (p + 1) = 61
      · rw [if_neg (fun y => y b1)]
        exact two 11 258 (Or.inr (Or.inr ⟨rfl, rfl⟩)) c1 (by rw [uS, if_neg k1, if_neg k2, if_pos ⟨a2, h61.mp b1⟩])
      · rw [if_pos b1]
        exact one (by rw [uS, if_neg k1, if_neg k2, if_neg (fun y => b1 (h61.mpr y.2))])
    · rw [if_pos (show ¬ nI (b p) = 62 from fun y => a2 (n62.mp y))]
      exact one (by rw [uS, if_neg k1, if_neg k2, if_neg (fun y => a2 y.1)])
theorem S_tok {i : Nat} (hr : zRr b n i sa) (hK : ∀ ja : Nat → Nat → Int32, (∀ c k, ¬ (c = 127 ∧ 22 ≤ k ∧ k ≤ 25) → ja c k = sa c k) → ja 127 22 = nI (zTn b n i) → ja 127 23 = nI (zTp b n i) → zTR (zkN b n i) (zTv b n i) (ja 127 24) (ja 127 25) → K none (ja, la, zRA pl dr cp cw rp)) : zWM (d + 8) 133 [.ref 127] (sa, la, zRA pl dr cp cw rp) K := by
  rw [e133, S_skR n i sa (by omega) hr]
  obtain ⟨w1, w2, w3⟩ := zrnx_b (P := zspc) (b := b) n i hr.2.1
  have uN : zTn b n i = if n ≤ zTp b n i then zTp b n i else if zsml (b (zTp b n i)) = true then zrnx zsml b n n (zTp b n i) else if zdig (b (zTp b n i)) = true then zrnx zdig b n n (zTp b n i) else (zSn b n (zTp b n i)).2 := rfl
  have uK : zkN b n i = if n ≤ zTp b n i then 0 else if zsml (b (zTp b n i)) = true then (if zrnx zsml b n n (zTp b n i) - zTp b n i ≤ 6 then (if zWx (zpv b (zTp b n i) (zrnx zsml b n n (zTp b n i) - zTp b n i)) 20 0 = 20 then 3 else 20 + zWx (zpv b (zTp b n i) (zrnx zsml b n n (zTp b n i) - zTp b n i)) 20 0) else 1) else if zdig (b (zTp b n i)) = true then 2 else (zSn b n (zTp b n i)).1 := rfl
  have uV : zTv b n i = if n ≤ zTp b n i then 0 else if zsml (b (zTp b n i)) = true then zpv b (zTp b n i) (zrnx zsml b n n (zTp b n i) - zTp b n i) else if zdig (b (zTp b n i)) = true then zcnv b (zTp b n i) (zrnx zdig b n n (zTp b n i) - zTp b n i) else 0 := rfl
  rw [uN, uK, uV] at hK
  change zTp b n i ≤ n at w2
  show zWM (d + 7) 130 [.ref 127] (zu (zu sa 127 22 (nI (zTp b n i))) 127 23 (nI (zTp b n i)), la, zRA pl dr cp cw rp) (zK (d + 8) 133 43 [some (.ref 127), none] [] K)
  generalize zTp b n i = p at *
  generalize hs1 : zu (zu sa 127 22 (nI p)) 127 23 (nI p) = s1
  have hr1 : zRr b n p s1 := by rw [← hs1]; exact zRr_k (zRr_n hr w2) (by decide) (by decide)
  have s1c : ∀ c k, ¬ (c = 127 ∧ 22 ≤ k ∧ k ≤ 25) → s1 c k = sa c k := fun c k hc => by rw [← hs1, zu_at, if_neg (by omega), zu_at, if_neg (by omega)]
  have s23 : s1 127 23 = nI p := by rw [← hs1, zu_eq]
  rw [S_here hr1, kS, b133_43]
  unfold zhr
  by_cases c : n ≤ p
  · rw [if_neg (show ¬ p < n by omega), if_neg (fun y => y rfl)]
    rw [if_pos c, if_pos c, if_pos c] at hK
    refine hK _ (fun c' k hc => ?_) ?_ ?_ (Or.inl ⟨rfl, zu_eq _ _ _ _⟩)
    · rw [zu_at, if_neg (by omega), s1c c' k hc]
    · rw [zu_k (by decide)]; exact hr1.2.2.2.1
    · rw [zu_k (by decide)]; exact s23
  · have hpn : p < n := by omega
    have hb := (hr1.2.2.2.2 p hpn).1
    rw [if_neg c, if_neg c, if_neg c] at hK
    rw [if_pos hpn, if_pos (show ¬ nI (b p) = -1 from fun z => nI_pos (n := b p) (by omega) (by rw [z]; decide)), S_smR hb, kS, b133_61]
    by_cases cs : zsml (b p) = true
    · rw [if_pos cs, if_neg (by decide), S_smL n p s1 (by omega) hr1]
      rw [if_pos cs, if_pos cs, if_pos cs] at hK
      obtain ⟨v1, v2, v3⟩ := zrnx_b (P := zsml) (b := b) n p hr1.2.1
      generalize hq : zrnx zsml b n n p = q at *
      obtain ⟨m, rfl⟩ : ∃ m, q = p + m := ⟨q - p, by omega⟩
      rw [show p + m - p = m by omega] at hK
      have hl : ∀ j, j < m → zsml (b (p + j)) = true := fun j hj => v3 (p + j) (by omega) (by omega)
      generalize hs3 : zu s1 127 22 (nI (p + m)) = s3
      have hr3 : zRr b n (p + m) s3 := by rw [← hs3]; exact zRr_n hr1 v2
      have s3c : ∀ c k, ¬ (c = 127 ∧ 22 ≤ k ∧ k ≤ 25) → s3 c k = sa c k := fun c k hc => by rw [← hs3, zu_at, if_neg (by omega), s1c c k hc]
      have t23 : s3 127 23 = nI p := by rw [← hs3, zu_k (by decide)]; exact s23
      have t22 : s3 127 22 = nI (p + m) := hr3.2.2.2.1
      have n7 := hr3.1
      rw [S_word (d := d + 2) (by omega) t22 t23 (fun j h1 h2 => hr3.2.2.2.2 j (by omega)), kS, b133_92, zu_eq, zu_k (show (22 : Nat) ≠ 25 by decide), zu_k (show (23 : Nat) ≠ 25 by decide), t22, t23, pk_sub (by omega), show p + m - p = m by omega, zu_eq, zu_eq, zu_eq, if_neg (show ¬ ¬ (1 : Int32) = 1 by decide), if_pos (show ¬ (5 : Int32) = 1 by decide), if_pos (show ¬ (0 : Int32) = 1 by decide)]
      by_cases c6 : m ≤ 6
      · have ex := ytWi_x c6 hl 20 0 (by omega)
        have bx := zWx_b (x := zpv b p m) 20 0 (by omega)
        rw [if_pos c6] at hK
        by_cases c20 : zWx (zpv b p m) 20 0 = 20
        · rw [if_pos c20] at hK
          rw [ex, if_pos c20, if_pos rfl, if_pos (show nI m ≤ 6 from nI_le1 (b := 6) c6 (by omega))]
          refine S_nameR (p := p) (m := m) c6 (by omega) (by rw [zu_k (by decide), zu_k (by decide)]; exact t22) (by rw [zu_k (by decide), zu_k (by decide)]; exact t23) (fun j h1 h2 => ⟨v3 j h1 h2, by rw [zu_o (by decide), zu_o (by decide)]; exact (hr3.2.2.2.2 j (by omega)).2⟩) ?_
          rw [kN, b133_142]
          refine hK _ (fun c' k hc => ?_) ?_ ?_ (Or.inr (Or.inr (Or.inr (Or.inl ⟨rfl, ?_, zu_eq _ _ _ _⟩))))
          · rw [zu_at, if_neg (by omega), zu_at, if_neg (by omega), zu_at, if_neg (by omega), s3c c' k hc]
          · rw [zu_k (by decide), zu_k (by decide), zu_k (by decide)]; exact t22
          · rw [zu_k (by decide), zu_k (by decide), zu_k (by decide)]; exact t23
          · rw [zu_k (by decide), zu_eq]
        · rw [if_neg c20] at hK
          rw [ex, if_neg c20, if_neg (fun z => nI_pos (n := zWx (zpv b p m) 20 0) (by omega) (by rw [z]; decide))]
          refine hK _ (fun c' k hc => ?_) ?_ ?_ (Or.inr (Or.inr (Or.inr (Or.inr (Or.inr ⟨by omega, by omega, zu_eq _ _ _ _, ?_⟩)))))
          · rw [zu_at, if_neg (by omega), zu_at, if_neg (by omega), s3c c' k hc]
          · rw [zu_k (by decide), zu_k (by decide)]; exact t22
          · rw [zu_k (by decide), zu_k (by decide)]; exact t23
          · rw [zu_k (by decide), zu_eq]; congr 1; omega
      · rw [if_neg c6] at hK
        rw [ytWi_7 (by omega) 20 0 (by omega), if_pos rfl, if_neg (show ¬ nI m ≤ 6 from nI_nle1 (b := 6) (by omega) (by omega))]
        refine hK _ (fun c' k hc => ?_) ?_ ?_ (Or.inr (Or.inl ⟨rfl, zu_eq _ _ _ _⟩))
        · rw [zu_at, if_neg (by omega), zu_at, if_neg (by omega), s3c c' k hc]
        · rw [zu_k (by decide), zu_k (by decide)]; exact t22
        · rw [zu_k (by decide), zu_k (by decide)]; exact t23
    · rw [if_neg cs, if_pos rfl, S_dgR hb, kS, b133_149]
      rw [if_neg cs, if_neg cs, if_neg cs] at hK
      by_cases cd : zdig (b p) = true
      · rw [if_pos cd, if_neg (by decide)]
        rw [if_pos cd, if_pos cd, if_pos cd] at hK
        obtain ⟨v1, v2, v3⟩ := zrnx_b (P := zdig) (b := b) n p hr1.2.1
        refine S_nmL (p := p) (zRr_k (zRr_k hr1 (by decide) (by decide)) (by decide) (by decide)) (by rw [zu_k (by decide), zu_eq]) (zu_eq _ _ _ _) (fun ja hja => ?_)
        obtain ⟨b1, b2⟩ := zrnv_b b p (zrnx zdig b n n p - p) (fun j hj => v3 (p + j) (by omega) (by omega))
        refine hK ja (fun c' k hc => ?_) ?_ ?_ (Or.inr (Or.inr (Or.inl ⟨rfl, ?_, ?_⟩)))
        · rw [hja, if_neg (by omega), if_neg (by omega), zu_at, if_neg (by omega), zu_at, if_neg (by omega), s1c c' k hc]
        · rw [hja, if_pos ⟨rfl, rfl⟩]
        · rw [hja, if_neg (by omega), if_neg (by omega), zu_k (by decide), zu_k (by decide)]; exact s23
        · rw [hja, if_neg (by omega), if_neg (by omega), zu_k (by decide), zu_eq]
        · rw [hja, if_neg (by omega), if_pos ⟨rfl, rfl⟩]
          rcases b2 with ⟨b2, b3⟩ | ⟨b2, b3⟩
          · exact Or.inl ⟨b2, by rw [b3]⟩
          · exact Or.inr ⟨b2, nI_lt (a := 99999) b3 (by omega)⟩
      · rw [if_neg cd, if_pos rfl]
        rw [if_neg cd, if_neg cd, if_neg cd] at hK
        refine S_sgR (d := d + 6) hpn hr1 (fun ja h1 h2 h3 => ?_)
        rw [kN, b133_225]
        refine hK ja (fun c' k hc => ?_) h2 ?_ h3
        · rw [h1 c' k (by omega), s1c c' k hc]
        · rw [h1 127 23 (by omega)]; exact s23
end ZP
