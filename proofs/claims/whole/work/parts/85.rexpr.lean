/-! an E, read by the reference -/
def yGo (x d : Nat) (hp : zHP) (K : Option Value → zHP → Prop) : Prop :=
  if x = 1 then zWM d 154 [.ref 127] hp K else
  if x = 2 then zWM d 155 [.ref 127] hp K else
  if x = 3 then zWM d 156 [.ref 127] hp K else
  if x = 5 then zWM d 157 [.ref 127] hp K else
  if x = 6 then zWM d 158 [.ref 127] hp K else
  if x = 7 then zWM d 159 [.ref 127] hp K else
  if x = 11 then zWP d 154 4 [some (.ref 127)] [] hp K else
  if x = 12 then zWP d 155 4 [some (.ref 127)] [] hp K else
  if x = 15 then ∀ a1, zWP d 157 4 [some (.ref 127), a1] [] hp K else ∀ a1, zWP d 158 4 [some (.ref 127), a1] [] hp K
theorem yBin_1 : yBin 1 := Or.inl rfl
theorem yBin_2 : yBin 2 := Or.inr (Or.inl rfl)
theorem yBin_5 : yBin 5 := Or.inr (Or.inr (Or.inl rfl))
theorem yBin_6 : yBin 6 := Or.inr (Or.inr (Or.inr rfl))
theorem zKE_s {k : Nat} (h1 : 7 ≤ k) (h2 : k < 17) : zKE (nI k) (nI 0) 2 (zsc k) := Or.inr (Or.inr (Or.inr ⟨(zsc_g k h2 h1).1, rfl, (zsc_g k h2 h1).2⟩))
section ZP
variable {pl dr n : Nat} {cp cw rp : Option Nat} {b : Nat → Nat} {ia : Nat → Nat → Int32} {la : Nat → Nat → Int64}
theorem yTo_sg {i : Nat} {sa : Nat → Nat → Int32} (h : yTo b n i sa) (h1 : 4 ≤ zkN b n i) (h2 : zkN b n i < 17) : sa 127 24 = 3 ∧ sa 127 25 = zsc (zkN b n i) := by
  rcases h.2.2.2 with ⟨q, s⟩ | ⟨q, s⟩ | ⟨q, s, _⟩ | ⟨q, s, _⟩ | ⟨q, q', s, v⟩ | ⟨q, q', s, v⟩
  · omega
  · omega
  · omega
  · omega
  · exact ⟨s, v⟩
  · omega
theorem yTo_ns {i : Nat} {sa : Nat → Nat → Int32} (h : yTo b n i sa) (h1 : ¬ (4 ≤ zkN b n i ∧ zkN b n i < 17)) : ¬ sa 127 24 = 3 := by
  rcases h.2.2.2 with ⟨q, s⟩ | ⟨q, s⟩ | ⟨q, s, _⟩ | ⟨q, s, _⟩ | ⟨q, q', s, v⟩ | ⟨q, q', s, v⟩
  · rw [s]; decide
  · rw [s]; decide
  · rw [s]; decide
  · rw [s]; decide
  · omega
  · rw [s]; decide
theorem yRS_go : ∀ (f x o i c : Nat) (l : List (Nat × Nat)) (d : Nat) (sa : Nat → Nat → Int32) (K : Option Value → zHP → Prop), yX x → 10 * (n - i) + yg x ≤ f → c ≤ 64 → l.length ≤ c → o ≤ 8 → 20 + (64 - c) + 8 * (8 - o) + ydg x ≤ d → yRS b n ia i o c l sa → (∀ r sa', yPx b n f x o i c l = .ok r → yRS b n ia r.1 o r.2.1 r.2.2 sa' → K none (sa', la, zRA pl dr cp cw rp)) → (∀ e sa', yPx b n f x o i c l = .error e → yRf ia e sa' → K none (sa', la, zRA pl dr cp cw rp)) → yGo x d (sa, la, zRA pl dr cp cw rp) K := by
  intro f
  induction f with
  | zero =>
    intro x o i c l d sa K hx hf
    have : 1 ≤ yg x := by unfold yg; split; omega; split; omega; split; omega; split; omega; split <;> omega
    omega
  | succ f ih =>
    intro x o i c l d sa K hx hf hc hl ho hd hs hO hE
    have hi : i ≤ n := hs.1.1
    have hb := yTo_b hs.1
    obtain ⟨t1, t2, t3, t4, t5, _⟩ := yt_f hb hi
    have A := fun (x' o' i' c' : Nat) (l' : List (Nat × Nat)) (q1 : yX x') (q2 : i' ≤ n) (q3 : 10 * (n - i') + yg x' ≤ f) (q4 : c' ≤ 64) (r : Nat × Nat × List (Nat × Nat)) (q5 : yPx b n f x' o' i' c' l' = .ok r) => (yPx_A hb f x' o' i' c' l' q1 q2 q3 q4).2 r q5
    rcases hx with h | h | h | ⟨y, h, h2⟩
    · subst h
      have hf : 10 * (n - i) + 4 ≤ f + 1 := hf
      have hd : 20 + (64 - c) + 8 * (8 - o) + 4 ≤ d := hd
      obtain ⟨d, rfl⟩ : ∃ e, d = e + 10 := ⟨d - 10, by omega⟩
      show zWM (d + 10) 156 [.ref 127] (sa, la, zRA pl dr cp cw rp) K
      rw [e156, b156_0, S_isWd (w := 12) (u := 12) hs.1 hs.2.1 (by decide) rfl, kS, b156_6]
      by_cases k : zkN b n i = 32
      · rw [if_pos (show zkN b n i = 20 + 12 from k), if_neg (by decide)]
        have t3 := t3 (by omega)
        by_cases c6 : c = 64
        · refine R_k6 hs c6 (fun ja hj => ?_)
          have hn := yRf_n hj
          rw [kN, b156_13, F_go hn, kN, b156_17, F_B hn, kN, b156_21, F_pu hn, kN, b156_29]
          exact hE _ _ (yN_64 k c6) hj
        refine R_kn hs (by omega) (fun ja hj => ?_)
        rw [kN, b156_13]
        refine R_go hj (fun jb hj => ?_)
        rw [kN, b156_17]
        refine ih 3 o (zTn b n i) (c + 1) l (d + 9) jb _ yX_3 (by show 10 * (n - zTn b n i) + 4 ≤ f; omega) (by omega) (by omega) ho (by show 20 + (64 - (c + 1)) + 8 * (8 - o) + 4 ≤ d + 9; omega) hj (fun r sa' hr hs' => ?_) (fun e sa' he hs' => ?_)
        · have g := A 3 o _ _ _ yX_3 t2 (by show 10 * (n - zTn b n i) + 4 ≤ f; omega) (by omega) r hr
          rw [kN, b156_21]
          refine R_pu (k := 32) (v := 0) hs' (by omega) (Or.inr (Or.inr (Or.inl ⟨rfl, rfl, rfl⟩))) (fun jc hj => ?_)
          rw [kN, b156_29]
          exact hO _ _ (yN_ok k c6 hr) hj
        · have hn := yRf_n hs'
          rw [kN, b156_21, F_pu hn, kN, b156_29]
          exact hE _ _ (yN_er k c6 he) hs'
      · rw [if_neg (show ¬ zkN b n i = 20 + 12 from k), if_pos rfl]
        refine ih 5 o i c l (d + 9) sa _ yX_5 (by show 10 * (n - i) + 3 ≤ f; omega) hc hl ho (by show 20 + (64 - c) + 8 * (8 - o) + 3 ≤ d + 9; omega) hs (fun r sa' hr hs' => ?_) (fun e sa' he hs' => ?_)
        · have g := A 5 o _ _ _ yX_5 hi (by show 10 * (n - i) + 3 ≤ f; omega) hc r hr
          have g3 := g.2.2.1 (by decide)
          obtain ⟨s1, s2, s3, _⟩ := yt_f hb g.1
          rw [kN, b156_34, if_neg (fun y => y hs'.2.1)]
          by_cases k4 : yrk (zkN b n r.1) = 4
          · have kk := (yrk_i (zkN b n r.1)).2.2.2.1 k4
            have s3 := s3 (by omega)
            obtain ⟨v1, v2⟩ := yTo_sg hs'.1 (by omega) (by omega)
            have go : zWM (d + 9) 153 [.ref 127] (sa', la, zRA pl dr cp cw rp) (zK (d + 10) 156 96 [some (.ref 127), some (.int (zsc (zkN b n r.1)))] [] K) := by
              by_cases c6 : r.2.1 = 64
              · refine R_k6 hs' c6 (fun ja hj => ?_)
                have hn := yRf_n hj
                rw [kN, b156_96, F_go hn, kN, b156_100, F_S hn, kN, b156_104, F_pu hn, kN, b156_110]
                exact hE _ _ (yC_64 k hr k4 c6) hj
              have w := g.2.2.2.2.1
              refine R_kn hs' (by omega) (fun ja hj => ?_)
              rw [kN, b156_96]
              refine R_go hj (fun jb hj => ?_)
              rw [kN, b156_100]
              refine ih 5 o (zTn b n r.1) (r.2.1 + 1) r.2.2 (d + 9) jb _ yX_5 (by show 10 * (n - zTn b n r.1) + 3 ≤ f; omega) (by omega) (by omega) ho (by show 20 + (64 - (r.2.1 + 1)) + 8 * (8 - o) + 3 ≤ d + 9; omega) hj (fun q sb hq hs2 => ?_) (fun e sb he hs2 => ?_)
              · have g2 := A 5 o _ _ _ yX_5 s2 (by show 10 * (n - zTn b n r.1) + 3 ≤ f; omega) (by omega) q hq
                rw [kN, b156_104]
                refine R_pu (k := zkN b n r.1) (v := 0) hs2 (by omega) (zKE_s (by omega) (by omega)) (fun jc hj => ?_)
                rw [kN, b156_110]
                exact hO _ _ (yC_ok k hr k4 c6 hq) hj
              · have hn := yRf_n hs2
                rw [kN, b156_104, F_pu hn, kN, b156_110]
                exact hE _ _ (yC_e2 k hr k4 c6 he) hs2
            rw [v1, if_neg (fun y => y rfl), v2]
            rcases zsc_c1 _ (by omega) k4 with (z | z) | (z | z)
            · rw [if_pos z]; exact go
            · rw [if_pos z, ite_self]; exact go
            · rw [if_pos z, ite_self, ite_self]; exact go
            · rw [if_pos z, ite_self, ite_self, ite_self]; exact go
          · by_cases ks : 4 ≤ zkN b n r.1 ∧ zkN b n r.1 < 17
            · obtain ⟨v1, v2⟩ := yTo_sg hs'.1 ks.1 ks.2
              obtain ⟨⟨z1, z2⟩, z3, z4⟩ := zsc_c2 _ ks.2 ks.1 k4
              rw [v1, if_neg (fun y => y rfl), v2, if_neg z1, if_neg z2, if_neg z3, if_neg z4]
              exact hO _ _ (yC_no k hr k4) hs'
            · rw [if_pos (yTo_ns hs'.1 ks)]
              exact hO _ _ (yC_no k hr k4) hs'
        · have hn := yRf_n hs'
          rw [kN, b156_34, if_pos hn]
          exact hE _ _ (yC_er k he) hs'

    · subst h
      have hf : 10 * (n - i) + 1 ≤ f + 1 := hf
      have hd : 20 + (64 - c) + 8 * (8 - o) + 1 ≤ d := hd
      obtain ⟨d, rfl⟩ : ∃ e, d = e + 10 := ⟨d - 10, by omega⟩
      show zWM (d + 10) 159 [.ref 127] (sa, la, zRA pl dr cp cw rp) K
      rw [e159, b159_0, if_pos hs.2.1, S_isSg (k := 5) (u := 40) hs.1 hs.2.1 (by decide) (by decide) rfl, kS, b159_14]
      by_cases k5 : zkN b n i = 5
      · have t3 := t3 (by omega)
        rw [if_pos k5, if_neg (by decide), hs.2.2.2.1]
        by_cases o8 : o = 8
        · rw [o8, if_neg (show ¬ ¬ nI 8 = 8 from fun y => y rfl)]
          refine R_wr hs rfl (by decide) (by decide) (fun ja hj => ?_)
          rw [kN, b159_31, if_neg (yRf_n hj)]
          exact hE _ _ (yP_o8 k5 o8) hj
        rw [if_pos (show ¬ nI o = 8 from fun z => o8 ((nI_eq (b := 8) (by omega) (by omega)).mp z)), b159_31, if_pos hs.2.1, hs.2.2.2.1, ns]
        have hs2 : yRS b n ia i (o + 1) c l (zu sa 127 30 (nI (o + 1))) := by
          obtain ⟨h1, h2, h3, h4, h5, h7, h8, h9⟩ := hs
          exact ⟨yTo_e h1 (fun k q1 q2 => zu_k (by omega)) (fun j _ => by rw [zu_o (by decide)]), by rw [zu_k (by decide)]; exact h2, by rw [zu_k (by decide)]; exact h3, zu_eq _ _ _ _, by rw [zu_k (by decide)]; exact h5, by rw [zu_o (by decide)]; exact h7, fun j hj => by rw [zu_o (by decide), zu_o (by decide)]; exact h8 j hj, yFr_u h9 (Or.inl ⟨rfl, by decide, by decide, by decide, by decide⟩)⟩
        refine R_tok (d := d + 1) hs2 (fun ja hj => ?_)
        rw [kN, b159_53]
        refine ih 1 (o + 1) (zTn b n i) c l (d + 9) ja _ yX_1 (by show 10 * (n - zTn b n i) + 6 ≤ f; omega) hc hl (by omega) (by show 20 + (64 - c) + 8 * (8 - (o + 1)) + 6 ≤ d + 9; omega) hj (fun r sa' hr hs' => ?_) (fun e sa' he hs' => ?_)
        · rw [kN, b159_57, if_neg (fun y => y hs'.2.1), S_isSg (k := 6) (u := 41) hs'.1 hs'.2.1 (by decide) (by decide) rfl, kS, b159_70]
          by_cases k6 : zkN b n r.1 = 6
          · rw [if_pos k6, if_pos (by decide), b159_78, if_pos hs'.2.1, hs'.2.2.2.1, np]
            have hs3 : yRS b n ia r.1 o r.2.1 r.2.2 (zu sa' 127 30 (nI o)) := by
              obtain ⟨h1, h2, h3, h4, h5, h7, h8, h9⟩ := hs'
              exact ⟨yTo_e h1 (fun k q1 q2 => zu_k (by omega)) (fun j _ => by rw [zu_o (by decide)]), by rw [zu_k (by decide)]; exact h2, by rw [zu_k (by decide)]; exact h3, zu_eq _ _ _ _, by rw [zu_k (by decide)]; exact h5, by rw [zu_o (by decide)]; exact h7, fun j hj => by rw [zu_o (by decide), zu_o (by decide)]; exact h8 j hj, yFr_u h9 (Or.inl ⟨rfl, by decide, by decide, by decide, by decide⟩)⟩
            refine R_tok (d := d + 1) hs3 (fun jb hj => ?_)
            rw [kN, b159_100]
            exact hO _ _ (yP_ok k5 o8 hr k6) hj
          · rw [if_neg k6, if_neg (fun y => y rfl)]
            refine R_wr hs' rfl (by decide) (by decide) (fun jb hj => ?_)
            rw [kN, F_P8 (yRf_n hj)]
            exact hE _ _ (yP_on k5 o8 hr k6) hj
        · rw [kN, b159_57, if_pos (yRf_n hs'), F_P8 (yRf_n hs')]
          exact hE _ _ (yP_oe k5 o8 he) hs'
      rw [if_neg k5, if_pos rfl]
      have tail : ∀ (i1 : Int32) (k v : Nat) (s u : Int32), (i1 = 0 ∧ s = 1 ∧ sa 127 25 - 13 = u) ∨ (¬ i1 = 0 ∧ s = 0 ∧ sa 127 25 = u) → zKE (nI k) (nI v) s u → (c = 64 → yPx b n (f + 1) 7 o i c l = .error (2, zTp b n i)) → (¬ c = 64 → yPx b n (f + 1) 7 o i c l = .ok (zTn b n i, c + 1, l ++ [(k, v)])) → zWM (d + 9) 153 [.ref 127] (sa, la, zRA pl dr cp cw rp) (zK (d + 10) 159 166 [some (.ref 127), some (.int i1)] [] K) := by
        intro i1 k v s u hi1 hk q1 q2
        by_cases c6 : c = 64
        · refine R_k6 hs c6 (fun ja hj => ?_)
          rw [kN, F_P6 (yRf_n hj)]
          exact hE _ _ (q1 c6) hj
        have v25 : ∀ w, zu sa 127 31 w 127 25 = sa 127 25 := fun w => zu_k (by decide)
        obtain ⟨h1, h2, h3, h4, h5, h7, h8, h9⟩ := hs
        rw [e153, b153_0, if_pos h2, h5, if_pos (show ¬ nI c = 64 from fun z => by have := (nI_eq (b := 64) (by omega) (by omega)).mp z; omega), ns]
        have hs2 : yRS b n ia i o (c + 1) l (zu sa 127 31 (nI (c + 1))) := ⟨yTo_e h1 (fun k q1 q2 => zu_k (by omega)) (fun j _ => by rw [zu_o (by decide)]), by rw [zu_k (by decide)]; exact h2, by rw [zu_k (by decide)]; exact h3, by rw [zu_k (by decide)]; exact h4, zu_eq _ _ _ _, by rw [zu_o (by decide)]; exact h7, fun j hj => by rw [zu_o (by decide), zu_o (by decide)]; exact h8 j hj, yFr_u h9 (Or.inl ⟨rfl, by decide, by decide, by decide, by decide⟩)⟩
        rw [kN, b159_166]
        rcases hi1 with ⟨z1, z2, z3⟩ | ⟨z1, z2, z3⟩
        · rw [if_pos z1, b159_176, if_pos z1, v25, z3, ← z2]
          refine R_pu hs2 (by omega) hk (fun jb hj => ?_)
          rw [kN, b159_197]
          refine R_go hj (fun jc hj => ?_)
          rw [kN, b159_201]
          exact hO _ _ (q2 c6) hj
        · rw [if_neg z1, b159_176, if_neg z1, v25, z3, ← z2]
          refine R_pu hs2 (by omega) hk (fun jb hj => ?_)
          rw [kN, b159_197]
          refine R_go hj (fun jc hj => ?_)
          rw [kN, b159_201]
          exact hO _ _ (q2 c6) hj
      have bad : ∀ (i1 : Int32) (pc : Nat), pc = 134 ∨ pc = 162 → ∀ (v : Nat) (ja : Nat → Nat → Int32), yRf ia (v, zTp b n i) ja → yPx b n (f + 1) 7 o i c l = .error (v, zTp b n i) → zWP (d + 10) 159 pc [some (.ref 127), some (.int i1)] [] (ja, la, zRA pl dr cp cw rp) K := by
        intro i1 pc hpc v ja hj hx
        have hn := yRf_n hj
        rcases hpc with rfl | rfl
        · rw [b159_134, F_kn hn, kN, F_P6 hn]; exact hE _ _ hx hj
        · rw [b159_162, F_kn hn, kN, F_P6 hn]; exact hE _ _ hx hj
      by_cases k2 : zkN b n i = 2
      · obtain ⟨v1, v2⟩ : sa 127 24 = 2 ∧ ((zTv b n i ≤ 99999 ∧ sa 127 25 = nI (zTv b n i)) ∨ (99999 < zTv b n i ∧ 99999 < sa 127 25)) := by
          rcases hs.1.2.2.2 with ⟨q, s⟩ | ⟨q, s⟩ | ⟨q, s, v⟩ | ⟨q, s, _⟩ | ⟨q, q', s, v⟩ | ⟨q, q', s, v⟩
          · omega
          · omega
          · exact ⟨s, v⟩
          · omega
          · omega
          · omega
        rw [v1, if_neg (fun y => y rfl), b159_114, if_neg (by decide)]
        by_cases hv : 9999 < zTv b n i
        · have : ¬ sa 127 25 ≤ 9999 := by
            rcases v2 with ⟨_, v2⟩ | ⟨_, v2⟩
            · rw [v2]; exact nI_ge (a := 9999) hv (by omega)
            · intro z; exact absurd (Int32.lt_of_lt_of_le v2 z) (by decide)
          rw [if_neg this]
          refine R_wr hs rfl (by decide) (by decide) (fun ja hj => ?_)
          rw [kN]
          exact bad _ _ (Or.inl rfl) _ _ hj (yP_n2 k2 hv)
        · have v2 : sa 127 25 = nI (zTv b n i) := by
            rcases v2 with ⟨_, v2⟩ | ⟨z, _⟩
            · exact v2
            · omega
          rw [v2, if_pos (show nI (zTv b n i) ≤ 9999 from nI_le (b := 9999) (by omega) (by omega)), b159_137, if_pos (by decide)]
          exact tail 1 2 (zTv b n i) 0 (nI (zTv b n i)) (Or.inr ⟨by decide, rfl, v2⟩) (Or.inl ⟨rfl, rfl, rfl⟩) (fun z => yP_n6 k2 hv z) (fun z => yP_nk k2 hv z)
      have n2 : ¬ sa 127 24 = 2 := by
        rcases hs.1.2.2.2 with ⟨q, s⟩ | ⟨q, s⟩ | ⟨q, s, v⟩ | ⟨q, s, _⟩ | ⟨q, q', s, v⟩ | ⟨q, q', s, v⟩
        · rw [s]; decide
        · rw [s]; decide
        · omega
        · rw [s]; decide
        · rw [s]; decide
        · rw [s]; decide
      rw [if_pos n2, b159_114, if_pos rfl, b159_137, if_neg (fun y => y rfl)]
      by_cases kw : 20 ≤ zkN b n i
      · obtain ⟨v1, v2⟩ : sa 127 24 = 0 ∧ sa 127 25 = nI (zkN b n i - 20) := by
          rcases hs.1.2.2.2 with ⟨q, s⟩ | ⟨q, s⟩ | ⟨q, s, v⟩ | ⟨q, s, _⟩ | ⟨q, q', s, v⟩ | ⟨q, q', s, v⟩
          · omega
          · omega
          · omega
          · omega
          · omega
          · exact ⟨s, v⟩
        rw [v1, if_neg (fun y => y rfl), v2]
        by_cases k3 : 33 ≤ zkN b n i
        · rw [if_pos (show (13 : Int32) ≤ nI (zkN b n i - 20) from nI_le1 (a := 13) (by omega) (by omega))]
          exact tail 0 (zkN b n i) (zTv b n i) 1 (nI (zkN b n i - 33)) (Or.inl ⟨rfl, rfl, by rw [v2, show (13 : Int32) = nI 13 from rfl, pk_sub (by omega)]; congr 1⟩) (Or.inr (Or.inl ⟨zkN b n i - 33, by omega, by congr 1; omega, rfl, rfl⟩)) (fun z => yP_m6 k3 z) (fun z => yP_mk k3 z)
        · rw [if_neg (show ¬ (13 : Int32) ≤ nI (zkN b n i - 20) from nI_nle1 (a := 13) (by omega) (by omega))]
          refine R_wr hs rfl (by decide) (by decide) (fun ja hj => ?_)
          rw [kN]
          exact bad _ _ (Or.inr rfl) _ _ hj (yP_1 k5 k2 k3)
      have n0 : ¬ sa 127 24 = 0 := by
        rcases hs.1.2.2.2 with ⟨q, s⟩ | ⟨q, s⟩ | ⟨q, s, v⟩ | ⟨q, s, _⟩ | ⟨q, q', s, v⟩ | ⟨q, q', s, v⟩
        · rw [s]; decide
        · rw [s]; decide
        · rw [s]; decide
        · rw [s]; decide
        · rw [s]; decide
        · omega
      rw [if_pos n0]
      refine R_wr hs rfl (by decide) (by decide) (fun ja hj => ?_)
      rw [kN]
      exact bad _ _ (Or.inr rfl) _ _ hj (yP_1 k5 k2 (by omega))

    · rcases h with h | h | h | h <;> subst h
      · have hf : 10 * (n - i) + 6 ≤ f + 1 := hf
        have hd : 20 + (64 - c) + 8 * (8 - o) + 6 ≤ d := hd
        obtain ⟨d, rfl⟩ : ∃ e, d = e + 1 := ⟨d - 1, by omega⟩
        show zWM (d + 1) 154 [.ref 127] (sa, la, zRA pl dr cp cw rp) K
        rw [e154, b154_0]
        have xs := yX_sub yBin_1
        refine ih 2 o i c l d sa _ xs (by show 10 * (n - i) + 5 ≤ f; omega) hc hl ho (by show 20 + (64 - c) + 8 * (8 - o) + 5 ≤ d; omega) hs (fun r sa' hr hs' => ?_) (fun e sa' he hs' => ?_)
        · have g := A 2 o _ _ _ xs hi (by show 10 * (n - i) + 5 ≤ f; omega) hc r hr
          have g3 := g.2.2.1 (by decide)
          rw [kN]
          exact ih 11 o r.1 r.2.1 r.2.2 (d + 1) sa' K (yX_lp yBin_1) (by show 10 * (n - r.1) + 1 ≤ f; omega) g.2.2.2.2.1 (by omega) ho (by show 20 + (64 - r.2.1) + 8 * (8 - o) + 6 ≤ d + 1; omega) hs' (fun r' sb q1 q2 => hO r' sb ((yB_ok yBin_1 hr).trans q1) q2) (fun e sb q1 q2 => hE e sb ((yB_ok yBin_1 hr).trans q1) q2)
        · rw [kN, F_E4 (yRf_n hs')]
          exact hE _ _ (yB_er yBin_1 he) hs'
      · have hf : 10 * (n - i) + 5 ≤ f + 1 := hf
        have hd : 20 + (64 - c) + 8 * (8 - o) + 5 ≤ d := hd
        obtain ⟨d, rfl⟩ : ∃ e, d = e + 1 := ⟨d - 1, by omega⟩
        show zWM (d + 1) 155 [.ref 127] (sa, la, zRA pl dr cp cw rp) K
        rw [e155, b155_0]
        have xs := yX_sub yBin_2
        refine ih 3 o i c l d sa _ xs (by show 10 * (n - i) + 4 ≤ f; omega) hc hl ho (by show 20 + (64 - c) + 8 * (8 - o) + 4 ≤ d; omega) hs (fun r sa' hr hs' => ?_) (fun e sa' he hs' => ?_)
        · have g := A 3 o _ _ _ xs hi (by show 10 * (n - i) + 4 ≤ f; omega) hc r hr
          have g3 := g.2.2.1 (by decide)
          rw [kN]
          exact ih 12 o r.1 r.2.1 r.2.2 (d + 1) sa' K (yX_lp yBin_2) (by show 10 * (n - r.1) + 1 ≤ f; omega) g.2.2.2.2.1 (by omega) ho (by show 20 + (64 - r.2.1) + 8 * (8 - o) + 5 ≤ d + 1; omega) hs' (fun r' sb q1 q2 => hO r' sb ((yB_ok yBin_2 hr).trans q1) q2) (fun e sb q1 q2 => hE e sb ((yB_ok yBin_2 hr).trans q1) q2)
        · rw [kN, F_A4 (yRf_n hs')]
          exact hE _ _ (yB_er yBin_2 he) hs'
      · have hf : 10 * (n - i) + 3 ≤ f + 1 := hf
        have hd : 20 + (64 - c) + 8 * (8 - o) + 3 ≤ d := hd
        obtain ⟨d, rfl⟩ : ∃ e, d = e + 1 := ⟨d - 1, by omega⟩
        show zWM (d + 1) 157 [.ref 127] (sa, la, zRA pl dr cp cw rp) K
        rw [e157, b157_0]
        have xs := yX_sub yBin_5
        refine ih 6 o i c l d sa _ xs (by show 10 * (n - i) + 2 ≤ f; omega) hc hl ho (by show 20 + (64 - c) + 8 * (8 - o) + 2 ≤ d; omega) hs (fun r sa' hr hs' => ?_) (fun e sa' he hs' => ?_)
        · have g := A 6 o _ _ _ xs hi (by show 10 * (n - i) + 2 ≤ f; omega) hc r hr
          have g3 := g.2.2.1 (by decide)
          rw [kN]
          exact ih 15 o r.1 r.2.1 r.2.2 (d + 1) sa' K (yX_lp yBin_5) (by show 10 * (n - r.1) + 1 ≤ f; omega) g.2.2.2.2.1 (by omega) ho (by show 20 + (64 - r.2.1) + 8 * (8 - o) + 3 ≤ d + 1; omega) hs' (fun r' sb q1 q2 => hO r' sb ((yB_ok yBin_5 hr).trans q1) q2) (fun e sb q1 q2 => hE e sb ((yB_ok yBin_5 hr).trans q1) q2) none
        · rw [kN, F_S4 (yRf_n hs')]
          exact hE _ _ (yB_er yBin_5 he) hs'
      · have hf : 10 * (n - i) + 2 ≤ f + 1 := hf
        have hd : 20 + (64 - c) + 8 * (8 - o) + 2 ≤ d := hd
        obtain ⟨d, rfl⟩ : ∃ e, d = e + 1 := ⟨d - 1, by omega⟩
        show zWM (d + 1) 158 [.ref 127] (sa, la, zRA pl dr cp cw rp) K
        rw [e158, b158_0]
        have xs := yX_sub yBin_6
        refine ih 7 o i c l d sa _ xs (by show 10 * (n - i) + 1 ≤ f; omega) hc hl ho (by show 20 + (64 - c) + 8 * (8 - o) + 1 ≤ d; omega) hs (fun r sa' hr hs' => ?_) (fun e sa' he hs' => ?_)
        · have g := A 7 o _ _ _ xs hi (by show 10 * (n - i) + 1 ≤ f; omega) hc r hr
          have g3 := g.2.2.1 (by decide)
          rw [kN]
          exact ih 16 o r.1 r.2.1 r.2.2 (d + 1) sa' K (yX_lp yBin_6) (by show 10 * (n - r.1) + 1 ≤ f; omega) g.2.2.2.2.1 (by omega) ho (by show 20 + (64 - r.2.1) + 8 * (8 - o) + 2 ≤ d + 1; omega) hs' (fun r' sb q1 q2 => hO r' sb ((yB_ok yBin_6 hr).trans q1) q2) (fun e sb q1 q2 => hE e sb ((yB_ok yBin_6 hr).trans q1) q2) none
        · rw [kN, F_T4 (yRf_n hs')]
          exact hE _ _ (yB_er yBin_6 he) hs'
    · subst h2
      rcases h with h | h | h | h <;> subst h
      · have hf : 10 * (n - i) + 1 ≤ f + 1 := hf
        have hd : 20 + (64 - c) + 8 * (8 - o) + 6 ≤ d := hd
        obtain ⟨d, rfl⟩ : ∃ e, d = e + 10 := ⟨d - 10, by omega⟩
        show zWP (d + 10) 154 4 [some (.ref 127)] [] (sa, la, zRA pl dr cp cw rp) K
        rw [b154_4, S_isWd (w := 10) (u := 10) hs.1 hs.2.1 (by decide) rfl, kS, b154_10]
        by_cases k : yrk (zkN b n i) = 1
        · have kk : zkN b n i = 30 := (yrk_i (zkN b n i)).1 k
          have t3 := t3 (by omega)
          have xs := yX_sub yBin_1
          rw [if_pos (show zkN b n i = 20 + 10 from kk), if_neg (by decide)]
          by_cases c6 : c = 64
          · refine R_k6 hs c6 (fun ja hj => ?_)
            have hn := yRf_n hj
            rw [kN, b154_17, F_go hn, kN, b154_21, F_A hn, kN, b154_25, F_pu hn, kN, b154_33, F_E4 hn]
            exact hE _ _ (yL_64 yBin_1 k c6) hj
          refine R_kn hs (by omega) (fun ja hj => ?_)
          rw [kN, b154_17]
          refine R_go hj (fun jb hj => ?_)
          rw [kN, b154_21]
          refine ih 2 o (zTn b n i) (c + 1) l (d + 9) jb _ xs (by show 10 * (n - zTn b n i) + 5 ≤ f; omega) (by omega) (by omega) ho (by show 20 + (64 - (c + 1)) + 8 * (8 - o) + 5 ≤ d + 9; omega) hj (fun r sa' hr hs' => ?_) (fun e sa' he hs' => ?_)
          · have g := A 2 o _ _ _ xs t2 (by show 10 * (n - zTn b n i) + 5 ≤ f; omega) (by omega) r hr
            have g3 := g.2.2.1 (by decide)
            rw [kN, b154_25]
            refine R_pu (k := 30) (v := 0) hs' (by omega) (Or.inr (Or.inr (Or.inr ⟨by unfold zsgn; decide, rfl, by decide⟩))) (fun jc hj => ?_)
            rw [kN, b154_33]
            have ek : yPx b n (f + 1) 11 o i c l = yPx b n f 11 o r.1 r.2.1 (r.2.2 ++ [(30, 0)]) := by have := yL_ok yBin_1 k c6 hr; rw [kk] at this; exact this
            exact ih 11 o r.1 r.2.1 (r.2.2 ++ [(30, 0)]) (d + 10) jc K (yX_lp yBin_1) (by show 10 * (n - r.1) + 1 ≤ f; omega) g.2.2.2.2.1 (by rw [List.length_append]; show r.2.2.length + 1 ≤ r.2.1; omega) ho (by show 20 + (64 - r.2.1) + 8 * (8 - o) + 6 ≤ d + 10; omega) hj (fun r' sb q1 q2 => hO r' sb (ek.trans q1) q2) (fun e sb q1 q2 => hE e sb (ek.trans q1) q2)
          · have hn := yRf_n hs'
            rw [kN, b154_25, F_pu hn, kN, b154_33, F_E4 hn]
            exact hE _ _ (yL_er yBin_1 k c6 he) hs'
        · have kk : ¬ zkN b n i = 30 := fun z => k (by rw [z]; rfl)
          rw [if_neg (show ¬ zkN b n i = 20 + 10 from kk), if_pos rfl]
          exact hO _ _ (yL_no yBin_1 k) hs
      · have hf : 10 * (n - i) + 1 ≤ f + 1 := hf
        have hd : 20 + (64 - c) + 8 * (8 - o) + 5 ≤ d := hd
        obtain ⟨d, rfl⟩ : ∃ e, d = e + 10 := ⟨d - 10, by omega⟩
        show zWP (d + 10) 155 4 [some (.ref 127)] [] (sa, la, zRA pl dr cp cw rp) K
        rw [b155_4, S_isWd (w := 11) (u := 11) hs.1 hs.2.1 (by decide) rfl, kS, b155_10]
        by_cases k : yrk (zkN b n i) = 2
        · have kk : zkN b n i = 31 := (yrk_i (zkN b n i)).2.1 k
          have t3 := t3 (by omega)
          have xs := yX_sub yBin_2
          rw [if_pos (show zkN b n i = 20 + 11 from kk), if_neg (by decide)]
          by_cases c6 : c = 64
          · refine R_k6 hs c6 (fun ja hj => ?_)
            have hn := yRf_n hj
            rw [kN, b155_17, F_go hn, kN, b155_21, F_B hn, kN, b155_25, F_pu hn, kN, b155_33, F_A4 hn]
            exact hE _ _ (yL_64 yBin_2 k c6) hj
          refine R_kn hs (by omega) (fun ja hj => ?_)
          rw [kN, b155_17]
          refine R_go hj (fun jb hj => ?_)
          rw [kN, b155_21]
          refine ih 3 o (zTn b n i) (c + 1) l (d + 9) jb _ xs (by show 10 * (n - zTn b n i) + 4 ≤ f; omega) (by omega) (by omega) ho (by show 20 + (64 - (c + 1)) + 8 * (8 - o) + 4 ≤ d + 9; omega) hj (fun r sa' hr hs' => ?_) (fun e sa' he hs' => ?_)
          · have g := A 3 o _ _ _ xs t2 (by show 10 * (n - zTn b n i) + 4 ≤ f; omega) (by omega) r hr
            have g3 := g.2.2.1 (by decide)
            rw [kN, b155_25]
            refine R_pu (k := 31) (v := 0) hs' (by omega) (Or.inr (Or.inr (Or.inr ⟨by unfold zsgn; decide, rfl, by decide⟩))) (fun jc hj => ?_)
            rw [kN, b155_33]
            have ek : yPx b n (f + 1) 12 o i c l = yPx b n f 12 o r.1 r.2.1 (r.2.2 ++ [(31, 0)]) := by have := yL_ok yBin_2 k c6 hr; rw [kk] at this; exact this
            exact ih 12 o r.1 r.2.1 (r.2.2 ++ [(31, 0)]) (d + 10) jc K (yX_lp yBin_2) (by show 10 * (n - r.1) + 1 ≤ f; omega) g.2.2.2.2.1 (by rw [List.length_append]; show r.2.2.length + 1 ≤ r.2.1; omega) ho (by show 20 + (64 - r.2.1) + 8 * (8 - o) + 5 ≤ d + 10; omega) hj (fun r' sb q1 q2 => hO r' sb (ek.trans q1) q2) (fun e sb q1 q2 => hE e sb (ek.trans q1) q2)
          · have hn := yRf_n hs'
            rw [kN, b155_25, F_pu hn, kN, b155_33, F_A4 hn]
            exact hE _ _ (yL_er yBin_2 k c6 he) hs'
        · have kk : ¬ zkN b n i = 31 := fun z => k (by rw [z]; rfl)
          rw [if_neg (show ¬ zkN b n i = 20 + 11 from kk), if_pos rfl]
          exact hO _ _ (yL_no yBin_2 k) hs
      · have hf : 10 * (n - i) + 1 ≤ f + 1 := hf
        have hd : 20 + (64 - c) + 8 * (8 - o) + 3 ≤ d := hd
        obtain ⟨d, rfl⟩ : ∃ e, d = e + 10 := ⟨d - 10, by omega⟩
        show ∀ a1, zWP (d + 10) 157 4 [some (.ref 127), a1] [] (sa, la, zRA pl dr cp cw rp) K
        intro a1
        have go : yrk (zkN b n i) = 5 → zWM (d + 9) 153 [.ref 127] (sa, la, zRA pl dr cp cw rp) (zK (d + 10) 157 31 [some (.ref 127), some (.int (sa 127 25))] [] K) := by
          intro k
          have kk : zkN b n i = 13 ∨ zkN b n i = 14 := (yrk_i (zkN b n i)).2.2.2.2.1 k
          have t3 := t3 (by omega)
          have xs := yX_sub yBin_5
          obtain ⟨v1, v2⟩ := yTo_sg hs.1 (by omega) (by omega)
          rw [v2]
          by_cases c6 : c = 64
          · refine R_k6 hs c6 (fun ja hj => ?_)
            have hn := yRf_n hj
            rw [kN, b157_31, F_go hn, kN, b157_35, F_T hn, kN, b157_39, F_pu hn, kN, b157_45, F_S4 hn]
            exact hE _ _ (yL_64 yBin_5 k c6) hj
          refine R_kn hs (by omega) (fun ja hj => ?_)
          rw [kN, b157_31]
          refine R_go hj (fun jb hj => ?_)
          rw [kN, b157_35]
          refine ih 6 o (zTn b n i) (c + 1) l (d + 9) jb _ xs (by show 10 * (n - zTn b n i) + 2 ≤ f; omega) (by omega) (by omega) ho (by show 20 + (64 - (c + 1)) + 8 * (8 - o) + 2 ≤ d + 9; omega) hj (fun r sa' hr hs' => ?_) (fun e sa' he hs' => ?_)
          · have g := A 6 o _ _ _ xs t2 (by show 10 * (n - zTn b n i) + 2 ≤ f; omega) (by omega) r hr
            have g3 := g.2.2.1 (by decide)
            rw [kN, b157_39]
            refine R_pu (k := zkN b n i) (v := 0) hs' (by omega) (zKE_s (by omega) (by omega)) (fun jc hj => ?_)
            rw [kN, b157_45]
            have ek := yL_ok yBin_5 k c6 hr
            exact ih 15 o r.1 r.2.1 (r.2.2 ++ [(zkN b n i, 0)]) (d + 10) jc K (yX_lp yBin_5) (by show 10 * (n - r.1) + 1 ≤ f; omega) g.2.2.2.2.1 (by rw [List.length_append]; show r.2.2.length + 1 ≤ r.2.1; omega) ho (by show 20 + (64 - r.2.1) + 8 * (8 - o) + 3 ≤ d + 10; omega) hj (fun r' sb q1 q2 => hO r' sb (ek.trans q1) q2) (fun e sb q1 q2 => hE e sb (ek.trans q1) q2) _
          · have hn := yRf_n hs'
            rw [kN, b157_39, F_pu hn, kN, b157_45, F_S4 hn]
            exact hE _ _ (yL_er yBin_5 k c6 he) hs'
        rw [b157_4, S_isSg (k := 13) (u := 43) hs.1 hs.2.1 (by decide) (by decide) rfl, kS, b157_10]
        by_cases q1 : zkN b n i = 13
        · rw [if_pos q1, if_pos (by decide)]
          exact go (by rw [q1]; rfl)
        rw [if_neg q1, if_neg (fun y => y rfl), S_isSg (k := 14) (u := 45) hs.1 hs.2.1 (by decide) (by decide) rfl, kS, b157_19]
        by_cases q2 : zkN b n i = 14
        · rw [if_pos q2, if_neg (by decide)]
          exact go (by rw [q2]; rfl)
        rw [if_neg q2, if_pos rfl]
        exact hO _ _ (yL_no yBin_5 (fun k => by have := (yrk_i (zkN b n i)).2.2.2.2.1 k; omega)) hs
      · have hf : 10 * (n - i) + 1 ≤ f + 1 := hf
        have hd : 20 + (64 - c) + 8 * (8 - o) + 2 ≤ d := hd
        obtain ⟨d, rfl⟩ : ∃ e, d = e + 10 := ⟨d - 10, by omega⟩
        show ∀ a1, zWP (d + 10) 158 4 [some (.ref 127), a1] [] (sa, la, zRA pl dr cp cw rp) K
        intro a1
        have go : yrk (zkN b n i) = 6 → zWM (d + 9) 153 [.ref 127] (sa, la, zRA pl dr cp cw rp) (zK (d + 10) 158 31 [some (.ref 127), some (.int (sa 127 25))] [] K) := by
          intro k
          have kk : zkN b n i = 15 ∨ zkN b n i = 16 := (yrk_i (zkN b n i)).2.2.2.2.2.1 k
          have t3 := t3 (by omega)
          have xs := yX_sub yBin_6
          obtain ⟨v1, v2⟩ := yTo_sg hs.1 (by omega) (by omega)
          rw [v2]
          by_cases c6 : c = 64
          · refine R_k6 hs c6 (fun ja hj => ?_)
            have hn := yRf_n hj
            rw [kN, b158_31, F_go hn, kN, b158_35, F_P hn, kN, b158_39, F_pu hn, kN, b158_45, F_T4 hn]
            exact hE _ _ (yL_64 yBin_6 k c6) hj
          refine R_kn hs (by omega) (fun ja hj => ?_)
          rw [kN, b158_31]
          refine R_go hj (fun jb hj => ?_)
          rw [kN, b158_35]
          refine ih 7 o (zTn b n i) (c + 1) l (d + 9) jb _ xs (by show 10 * (n - zTn b n i) + 1 ≤ f; omega) (by omega) (by omega) ho (by show 20 + (64 - (c + 1)) + 8 * (8 - o) + 1 ≤ d + 9; omega) hj (fun r sa' hr hs' => ?_) (fun e sa' he hs' => ?_)
          · have g := A 7 o _ _ _ xs t2 (by show 10 * (n - zTn b n i) + 1 ≤ f; omega) (by omega) r hr
            have g3 := g.2.2.1 (by decide)
            rw [kN, b158_39]
            refine R_pu (k := zkN b n i) (v := 0) hs' (by omega) (zKE_s (by omega) (by omega)) (fun jc hj => ?_)
            rw [kN, b158_45]
            have ek := yL_ok yBin_6 k c6 hr
            exact ih 16 o r.1 r.2.1 (r.2.2 ++ [(zkN b n i, 0)]) (d + 10) jc K (yX_lp yBin_6) (by show 10 * (n - r.1) + 1 ≤ f; omega) g.2.2.2.2.1 (by rw [List.length_append]; show r.2.2.length + 1 ≤ r.2.1; omega) ho (by show 20 + (64 - r.2.1) + 8 * (8 - o) + 2 ≤ d + 10; omega) hj (fun r' sb q1 q2 => hO r' sb (ek.trans q1) q2) (fun e sb q1 q2 => hE e sb (ek.trans q1) q2) _
          · have hn := yRf_n hs'
            rw [kN, b158_39, F_pu hn, kN, b158_45, F_T4 hn]
            exact hE _ _ (yL_er yBin_6 k c6 he) hs'
        rw [b158_4, S_isSg (k := 15) (u := 42) hs.1 hs.2.1 (by decide) (by decide) rfl, kS, b158_10]
        by_cases q1 : zkN b n i = 15
        · rw [if_pos q1, if_pos (by decide)]
          exact go (by rw [q1]; rfl)
        rw [if_neg q1, if_neg (fun y => y rfl), S_isSg (k := 16) (u := 47) hs.1 hs.2.1 (by decide) (by decide) rfl, kS, b158_19]
        by_cases q2 : zkN b n i = 16
        · rw [if_pos q2, if_neg (by decide)]
          exact go (by rw [q2]; rfl)
        rw [if_neg q2, if_pos rfl]
        exact hO _ _ (yL_no yBin_6 (fun k => by have := (yrk_i (zkN b n i)).2.2.2.2.2.1 k; omega)) hs
end ZP
