/-! all lines of the reference -/
section ZP
variable {d pl dr n i N L T t ln : Nat} {cp cw rp : Option Nat} {b : Nat → Nat} {ia sa : Nat → Nat → Int32} {la : Nat → Nat → Int64} {K : Option Value → zHP → Prop} {l : List (Nat × Nat)} {P : Nat → Nat → Nat} {D : Nat → Nat → Prop} {e : Nat × Nat}
theorem S_ful0 : zWM (d + 1) 148 [.ref 127, .int 0] (sa, la, zRA pl dr cp cw rp) K = K (some (.int (if sa 129 7 = 6 then 1 else 0))) (sa, la, zRA pl dr cp cw rp) := by
  rw [e148, b148_0, if_neg (fun y => y rfl), S_frs (j := 0) (u := 0) rfl (by decide), kS, b148_9]
  by_cases c : sa 129 7 = 6
  · rw [if_pos c, if_pos c]
  · rw [if_neg c, if_neg c, b148_14, if_pos (by decide), if_pos (by decide)]
theorem S_ful1 : zWM (d + 1) 148 [.ref 127, .int 1] (sa, la, zRA pl dr cp cw rp) K = K (some (.int (if sa 129 8 = 10 then 1 else 0))) (sa, la, zRA pl dr cp cw rp) := by
  rw [e148, b148_0, if_pos (by decide), b148_14, if_neg (fun y => y rfl), S_frs (j := 1) (u := 1) rfl (by decide), kS, b148_24]
  by_cases c : sa 129 8 = 10
  · rw [if_pos c, if_pos c]
  · rw [if_neg c, if_neg c, if_pos (by decide)]
theorem S_ful2 : zWM (d + 1) 148 [.ref 127, .int 2] (sa, la, zRA pl dr cp cw rp) K = K (some (.int (if sa 129 9 = 12 then 1 else 0))) (sa, la, zRA pl dr cp cw rp) := by
  rw [e148, b148_0, if_pos (by decide), b148_14, if_pos (by decide), if_neg (fun y => y rfl), S_frs (j := 2) (u := 2) rfl (by decide), kS, b148_39]
  by_cases c : sa 129 9 = 12
  · rw [if_neg (fun y => y c), if_pos c]
  · rw [if_pos c, if_neg c]
theorem S_ful {v : Nat} (h1 : 3 ≤ v) (h2 : v < 10) : zWM (d + 1) 148 [.ref 127, .int (nI v)] (sa, la, zRA pl dr cp cw rp) K = K (some (.int 0)) (sa, la, zRA pl dr cp cw rp) := by
  have z : ∀ j, j < 3 → ¬ nI v = nI j := fun j hj y => by have := (nI_eq (by omega) (by omega)).mp y; omega
  rw [e148, b148_0, if_pos (show ¬ nI v = 0 from z 0 (by decide)), b148_14, if_pos (show ¬ nI v = 1 from z 1 (by decide)), if_pos (show ¬ nI v = 2 from z 2 (by decide))]
theorem Fe_70 {i1 : Int32} (h : ¬ sa 127 26 = 0) : zWP (d + 1) 149 70 [some (.ref 127), some (.int i1), none, none] [] (sa, la, zRA pl dr cp cw rp) K = K none (sa, la, zRA pl dr cp cw rp) := by
  rw [b149_70, if_neg h]
theorem N_line {s : yS7} (h : yMLs b n ia s ln sa) (w : yWf s) (hO : ∀ q, yLn b n s = .ok q → ∀ ja, yMLs b n ia q (ln + 1) ja → K none (ja, la, zRA pl dr cp cw rp)) (hE : ∀ e, yLn b n s = .error e → ∀ ja, yMe ia e ja → K none (ja, la, zRA pl dr cp cw rp)) : zWM (d + 190) 149 [.ref 127] (sa, la, zRA pl dr cp cw rp) K := by
  obtain ⟨i, N, L, T, t, P, l⟩ := s
  change yML b n ia (yDm N L T) i N L T t P l ln sa at h
  have w1 : yW1 N L T t P l := w.1
  have hN := w1.1
  have hL := w1.2.1
  have hT := w1.2.2.1
  obtain ⟨k4, _, _⟩ := yML_k h
  have uL : yLn b n (i, N, L, T, t, P, l) = match yBd b n (i, N, L, T, t, P, l) with
    | .error e => .error e
    | .ok q => if zkN b n q.1 = 4 then .ok (zTn b n q.1, q.2) else .error (1, zTp b n q.1) := rfl
  have hO' : ∀ st, yBd b n (i, N, L, T, t, P, l) = .ok st → zkN b n st.1 = 4 → ∀ ja, yMLs b n ia (zTn b n st.1, st.2) (ln + 1) ja → K none (ja, la, zRA pl dr cp cw rp) := fun st h1 h2 ja hj => hO _ (by rw [uL, h1]; dsimp only; rw [if_pos h2]) ja hj
  have hE' : ∀ e, yEr b n (yBd b n (i, N, L, T, t, P, l)) e → ∀ ja, yMe ia e ja → K none (ja, la, zRA pl dr cp cw rp) := fun e he ja hj => hE e (by
    rw [uL]
    rcases he with he | ⟨q, he, h4, h5⟩
    · rw [he]
    · rw [he]; dsimp only; rw [if_neg h4, h5]) ja hj
  have uD : yBd b n (i, N, L, T, t, P, l) = if zkN b n i = 20 then yBman b n N L T t P l i else if zkN b n i = 21 then yBlea b n N L T t P l i else if zkN b n i = 22 then yBlet b n N L T t P l i else if 23 ≤ zkN b n i ∧ zkN b n i ≤ 25 then yBset b n N L T t P l i else if zkN b n i = 26 then yBlaw b n N L T t P l i else .error (1, zTp b n i) := rfl
  rw [uD] at hO' hE'
  rw [e149, b149_0]
  have bad : ¬ (20 ≤ zkN b n i ∧ zkN b n i ≤ 26) → zWM (d + 189) 137 [.ref 127, .int 1] (sa, la, zRA pl dr cp cw rp) (zK (d + 190) 149 21 [some (.ref 127), none, none, none] [] K) := by
    intro c
    refine N_wr h rfl (by decide) (by decide) (fun ja hj => ?_)
    rw [kN, b149_21]
    exact hE' _ (Or.inl (by rw [if_neg (by omega), if_neg (by omega), if_neg (by omega), if_neg (by omega), if_neg (by omega)])) ja hj
  by_cases kw : 20 ≤ zkN b n i
  case neg => rw [if_pos ((yTo_wd h.1).2 kw)]; exact bad (by omega)
  obtain ⟨v1, v2⟩ := (yTo_wd h.1).1 kw
  rw [v1, if_neg (fun y => y rfl), v2]
  by_cases k6 : zkN b n i ≤ 26
  case neg => rw [if_neg (show ¬ nI (zkN b n i - 20) ≤ 6 from nI_nle1 (b := 6) (by omega) (by omega))]; exact bad (by omega)
  rw [if_pos (show nI (zkN b n i - 20) ≤ 6 from nI_le1 (b := 6) (by omega) (by omega))]
  obtain ⟨u, q4, q4'⟩ := h.2.2.2.1
  -- the word is taken
  have go : ∀ (v t' : Nat) (K2 : zHP → Prop), v < 20 → yTd t' (u ||| 2 ^ v) → (∀ ja, yML b n ia (yDm N L T) (yit b n 1 i) N L T t' P l ln ja → zWP (d + 190) 149 94 [some (.ref 127), some (.int (nI v)), none, none] [] (ja, la, zRA pl dr cp cw rp) K) → zWP (d + 190) 149 70 [some (.ref 127), some (.int (nI v)), none, none] [] (sa, la, zRA pl dr cp cw rp) K := by
    intro v t' K2 hv htd hK
    rw [b149_70, if_pos h.2.1, q4, ybor hv]
    refine N_tok (d := d + 181) (N_td h htd) (fun ja hj => ?_)
    rw [kN]; exact hK ja hj
  by_cases c20 : zkN b n i = 20
  · rw [if_pos c20] at hO' hE'
    rw [c20, show nI (20 - 20) = 0 from rfl, S_ful0, kS, b149_32, h.2.2.2.2.2.2.2.1]
    by_cases c0 : N = 6
    · rw [if_pos (show nI N = 6 by rw [c0]; rfl), if_neg (by decide)]
      refine N_wr h rfl (by decide) (by decide) (fun ja hj => ?_)
      rw [kN, b149_40, Fe_70 (yMe_n hj)]
      exact hE' _ (Or.inl (by unfold yBman; rw [if_pos c0, yTh_n (by decide)])) _ hj
    rw [if_neg (show ¬ nI N = 6 from fun y => c0 ((nI_eq (b := 6) (by omega) (by omega)).mp y)), if_pos rfl, if_pos (by decide)]
    exact go 0 t (fun _ => True) (by decide) (yTd_o q4' (Or.inl (by decide))) (fun ja hj => R_man (d := d + 180) hj w1 c0 hO' hE')
  rw [if_neg c20] at hO' hE'
  by_cases c21 : zkN b n i = 21
  · rw [if_pos c21] at hO' hE'
    rw [c21, show nI (21 - 20) = 1 from rfl, S_ful1, kS, b149_32, h.2.2.2.2.2.2.2.2.1]
    by_cases c0 : L = 10
    · rw [if_pos (show nI L = 10 by rw [c0]; rfl), if_neg (by decide)]
      refine N_wr h rfl (by decide) (by decide) (fun ja hj => ?_)
      rw [kN, b149_40, Fe_70 (yMe_n hj)]
      exact hE' _ (Or.inl (by unfold yBlea; rw [if_pos c0, yTh_n (by decide)])) _ hj
    rw [if_neg (show ¬ nI L = 10 from fun y => c0 ((nI_eq (b := 10) (by omega) (by omega)).mp y)), if_pos rfl, if_pos (by decide)]
    refine go 1 t (fun _ => True) (by decide) (yTd_o q4' (Or.inl (by decide))) (fun ja hj => ?_)
    rw [b149_94, if_neg (by decide), if_pos (show nI 1 = 1 from rfl)]
    refine R_lea (d := d + 178) hj w1 c0 (fun st hst jb hb => ?_) (fun e he jb hb => ?_)
    · rw [kN, b149_225, if_pos hb.2.1]
      exact N_semi (d := d + 180) hb (fun k4 jc hc => hO' _ hst k4 jc hc) (fun k4 jc hc => hE' _ (Or.inr ⟨_, hst, k4, rfl⟩) jc hc)
    · rw [kN, b149_225, if_neg (yMe_n hb)]
      exact hE' _ (Or.inl he) _ hb
  rw [if_neg c21] at hO' hE'
  by_cases c22 : zkN b n i = 22
  · rw [if_pos c22] at hO' hE'
    rw [c22, show nI (22 - 20) = 2 from rfl, S_ful2, kS, b149_32, h.2.2.2.2.2.2.2.2.2.1]
    by_cases c0 : T = 12
    · rw [if_pos (show nI T = 12 by rw [c0]; rfl), if_neg (by decide)]
      refine N_wr h rfl (by decide) (by decide) (fun ja hj => ?_)
      rw [kN, b149_40, Fe_70 (yMe_n hj)]
      exact hE' _ (Or.inl (by unfold yBlet; rw [if_pos c0, yTh_n (by decide)])) _ hj
    rw [if_neg (show ¬ nI T = 12 from fun y => c0 ((nI_eq (b := 12) (by omega) (by omega)).mp y)), if_pos rfl, if_pos (by decide)]
    exact go 2 t (fun _ => True) (by decide) (yTd_o q4' (Or.inl (by decide))) (fun ja hj => R_let (d := d + 179) hj w1 c0 hO' hE')
  rw [if_neg c22] at hO' hE'
  by_cases c3 : 23 ≤ zkN b n i ∧ zkN b n i ≤ 25
  · rw [if_pos c3] at hO' hE'
    obtain ⟨j, hj⟩ : ∃ j, zkN b n i = 23 + j := ⟨zkN b n i - 23, by omega⟩
    have hj3 : j < 3 := by omega
    have e3 : zkN b n i - 20 = 3 + j := by omega
    rw [e3, S_ful (by omega) (by omega), kS, b149_32, if_pos rfl, if_neg (show ¬ nI (3 + j) < 3 from nI_nlt (b := 3) (by omega) (by omega)), if_neg (show ¬ (5 : Int32) < nI (3 + j) from nI_nlt (a := 5) (by omega) (by omega)), q4, ybit q4'.1 (by omega), q4'.2.1 j hj3]
    by_cases ct : t.testBit j = true
    · rw [if_pos ct, if_neg (fun y => y rfl)]
      refine N_wr h rfl (by decide) (by decide) (fun ja hja => ?_)
      rw [kN, Fe_70 (yMe_n hja)]
      exact hE' _ (Or.inl (by unfold yBset; rw [show zkN b n i - 23 = j by omega, if_pos ct, yTh_n (by decide)])) _ hja
    rw [if_neg ct, if_pos (by decide)]
    exact go (3 + j) (t ||| 2 ^ j) (fun _ => True) (by omega) (yTd_s q4' hj3) (fun ja hja => R_set (d := d + 180) j hj3 hj (by simpa using ct) hja hO' hE')
  rw [if_neg c3] at hO' hE'
  have c26 : zkN b n i = 26 := by omega
  rw [if_pos c26] at hO' hE'
  have e3 : zkN b n i - 20 = 6 := by omega
  rw [e3, S_ful (by omega) (by omega), kS, b149_32, if_pos rfl, if_neg (by decide), if_pos (by decide)]
  refine go 6 t (fun _ => True) (by decide) (yTd_o q4' (Or.inr rfl)) (fun ja hj => ?_)
  rw [b149_94, if_neg (by decide), if_neg (by decide), if_neg (by decide), if_neg (by decide), if_neg (by decide), if_neg (by decide)]
  refine R_law (d := d + 9) hj w1 (fun st hst jb hb => ?_) (fun e he jb hb => ?_)
  · rw [kN, b149_334, if_pos hb.2.1]
    exact N_semi (d := d + 180) hb (fun k4 jc hc => hO' _ hst k4 jc hc) (fun k4 jc hc => hE' _ (Or.inr ⟨_, hst, k4, rfl⟩) jc hc)
  · rw [kN, b149_334, if_neg (yMe_n hb)]
    exact hE' _ (Or.inl he) _ hb
theorem N_read {i1 i2 : Int32} : ∀ (f ln : Nat) (s : yS7) (sa : Nat → Nat → Int32), n < s.1 + f → yMLs b n ia s ln sa → yWf s → (∀ ln' s' sa', yTx b n f ln s = .ok (ln', s') → yMLs b n ia s' ln' sa' → yWf s' → zWP (d + 191) 161 149 [some (.ref 127), some (.int i1), some (.int i2)] [] (sa', la, zRA pl dr cp cw rp) K) → (∀ e sa', yTx b n f ln s = .error e → yMe ia e sa' → zWP (d + 191) 161 149 [some (.ref 127), some (.int i1), some (.int i2)] [] (sa', la, zRA pl dr cp cw rp) K) → zWP (d + 191) 161 127 [some (.ref 127), some (.int i1), some (.int i2)] [] (sa, la, zRA pl dr cp cw rp) K := by
  intro f
  induction f with
  | zero =>
    intro ln s sa hf h
    have := h.1.1
    omega
  | succ f ih =>
    intro ln s sa hf h w hO hE
    have hb := yTo_b h.1
    have hn : s.1 ≤ n := h.1.1
    obtain ⟨t1, t2, t3, t4, _⟩ := yt_f hb hn
    have uT : yTx b n (f + 1) ln s = if zkN b n s.1 = 0 then .ok (ln, s) else match yLn b n s with
      | .error e => .error e
      | .ok q => yTx b n f (ln + 1) q := rfl
    rw [b161_127, if_neg (fun y => y h.2.1)]
    by_cases k0 : zkN b n s.1 = 0
    · rw [if_pos k0] at uT
      have e4 : sa 127 24 = 4 := by
        rcases h.1.2.2.2 with ⟨q, s⟩ | ⟨q, s⟩ | ⟨q, s, v⟩ | ⟨q, s, v⟩ | ⟨q, q', s, v⟩ | ⟨q, q', s, v⟩
        · exact s
        · omega
        · omega
        · omega
        · omega
        · omega
      rw [if_pos e4]
      exact hO ln s sa uT h w
    have n4 : ¬ sa 127 24 = 4 := by
      rcases h.1.2.2.2 with ⟨q, s⟩ | ⟨q, s⟩ | ⟨q, s, v⟩ | ⟨q, s, v⟩ | ⟨q, q', s, v⟩ | ⟨q, q', s, v⟩
      · omega
      · rw [s]; decide
      · rw [s]; decide
      · rw [s]; decide
      · rw [s]; decide
      · rw [s]; decide
    rw [if_neg k0] at uT
    rw [if_neg n4]
    refine N_line h w (fun q hq ja hj => ?_) (fun e he ja hj => ?_)
    · rw [hq] at uT
      have uT : yTx b n (f + 1) ln s = yTx b n f (ln + 1) q := uT
      have hx : ∃ q0, yBd b n s = .ok q0 ∧ zkN b n q0.1 = 4 ∧ q = (zTn b n q0.1, q0.2) := by
        unfold yLn at hq
        cases hd : yBd b n s with
        | error e => rw [hd] at hq; cases hq
        | ok q0 =>
          rw [hd] at hq
          dsimp only at hq
          by_cases k4 : zkN b n q0.1 = 4
          · rw [if_pos k4] at hq; cases hq; exact ⟨q0, rfl, k4, rfl⟩
          · rw [if_neg k4] at hq; cases hq
      obtain ⟨q0, x1, x2, rfl⟩ := hx
      obtain ⟨wq, p1, p2⟩ := yBd_W hb hn w x1
      have t5 := (yt_f hb p2).2.2.1 (by omega)
      rw [kN, b161_146]
      exact ih (ln + 1) _ ja (by show n < zTn b n q0.1 + f; omega) hj wq (fun ln' s' sa' z1 z2 z3 => hO ln' s' sa' (uT.trans z1) z2 z3) (fun e sa' z1 z2 => hE e sa' (uT.trans z1) z2)
    · rw [he] at uT
      have uT : yTx b n (f + 1) ln s = .error e := uT
      have := hE e ja uT hj
      rw [kN, b161_146, b161_127, if_pos (yMe_n hj)]
      exact this
end ZP
