/-! an E, read by the class -/
/-- a comparison waits, and nothing above it that doesn't rank higher -/
def ycm (w : List Nat) : Prop := ∃ u y v, w = u ++ y :: v ∧ (∀ e ∈ u, 5 ≤ yrk e) ∧ yrk y = 4
/-- what can't go on at this rank -/
def ybl (lv : Nat) (w : List Nat) (k : Nat) : Prop := yrk k < lv ∨ k = 32 ∨ (yrk k = 4 ∧ ycm w)
def ylv (x : Nat) : Nat := if x < 10 then x else x - 10
/-- what waits below ranks lower -/
def ytb (x : Nat) : Nat := if x = 3 then 4 else if x < 10 then x else x - 10
theorem ycm_a {w v : List Nat} (h : ycm w) : ycm (w ++ v) := by
  obtain ⟨u, y, t, h1, h2, h3⟩ := h
  exact ⟨u, y, t ++ v, by rw [h1, List.append_assoc]; rfl, h2, h3⟩
theorem ybl_a {lv k : Nat} {w v : List Nat} (h : ybl lv w k) : ybl lv (w ++ v) k := by
  rcases h with h | h | h
  · exact Or.inl h
  · exact Or.inr (Or.inl h)
  · exact Or.inr (Or.inr ⟨h.1, ycm_a h.2⟩)
theorem ycm_t {w s : List Nat} (h : ycm w) : ytop (ydw 5 (w ++ s)) = 4 := by
  obtain ⟨u, y, v, h1, h2, h3⟩ := h
  rw [h1, List.append_assoc]
  rw [(ytw_a (r := 5) (t := (y :: v) ++ s) (show yrk y < 5 by omega) u h2).2]
  exact h3
theorem ycm_no {w : List Nat} (h : ∀ e ∈ w, 5 ≤ yrk e) : ¬ ycm w := by
  rintro ⟨u, y, v, h1, _, h3⟩
  have := h y (by rw [h1]; exact List.mem_append_right _ List.mem_cons_self)
  omega
theorem ytw_5 {s : List Nat} : ∀ w : List Nat, (ytw 4 (w ++ 5 :: s)).length ≤ w.length := by
  intro w
  induction w with
  | nil => show (ytw 4 (5 :: s)).length ≤ 0; rw [ytw_n (by decide)]; exact Nat.le_refl _
  | cons a w iw =>
    show (ytw 4 (a :: (w ++ 5 :: s))).length ≤ w.length + 1
    by_cases ca : 4 ≤ yrk a
    · rw [ytw_p ca]; show (ytw 4 (w ++ 5 :: s)).length + 1 ≤ w.length + 1; omega
    · rw [ytw_n ca]; show 0 ≤ _; omega
theorem yrk_32 {k : Nat} (h : yrk k = 3) : k = 32 := (yrk_i k).2.2.1 h
section ZP
variable {pl dr n rp : Nat} {cp cw : Option Nat} {b : Nat → Nat} {ia : Nat → Nat → Int32} {la : Nat → Nat → Int64}
/-- at the head of the class's loop over an E -/
abbrev yLH (d pl dr rp : Nat) (cp cw : Option Nat) (la : Nat → Nat → Int64) (ru v : Int32) (k : Nat) (sa : Nat → Nat → Int32) (K : Option Value → zHP → Prop) : Prop := zWP d 33 67 [some (.ref 1), some (.int ru), some (.int v), some (.int (nI k))] [] (sa, la, zRA pl dr cp cw (some rp)) K
theorem C_head1 {d i o c k : Nat} {l : List (Nat × Nat)} {s : List Nat} {ru : Int32} {sa : Nat → Nat → Int32} {K : Option Value → zHP → Prop} (h : yCS b n rp ia i o c l s sa) (hk : k < i) (hK : zWM d 34 [.ref 1] (sa, la, zRA pl dr cp cw (some rp)) (zK (d + 1) 33 114 [some (.ref 1), some (.int ru), some (.int 1), some (.int (nI k))] [] K)) : yLH (d + 1) pl dr rp cp cw la ru 1 k sa K := by
  have h7 := h.1.2.1.1
  have hi := h.1.1
  show zWP (d + 1) 33 67 [some (.ref 1), some (.int ru), some (.int 1), some (.int (nI k))] [] (sa, la, zRA pl dr cp cw (some rp)) K
  rw [b33_67, if_neg (show ¬ (700 : Int32) ≤ nI k from nI_nle1 (a := 700) (by omega) (by omega)), if_neg (fun y => y h.2.1), if_pos (by decide), if_neg (by decide)]
  exact hK
theorem C_head0 {d i o c k : Nat} {l : List (Nat × Nat)} {s : List Nat} {ru : Int32} {sa : Nat → Nat → Int32} {K : Option Value → zHP → Prop} (h : yCS b n rp ia i o c l s sa) (hk : k < i) (ho : o ≤ 8) (hn : ¬ (o = 0 ∧ zkN b n i = 4)) (hK : zWM d 36 [.ref 1] (sa, la, zRA pl dr cp cw (some rp)) (zK (d + 1) 33 121 [some (.ref 1), some (.int ru), some (.int 0), some (.int (nI k))] [] K)) : yLH (d + 1) pl dr rp cp cw la ru 0 k sa K := by
  have h7 := h.1.2.1.1
  have hi := h.1.1
  obtain ⟨k4, _⟩ := yCS_k h
  show zWP (d + 1) 33 67 [some (.ref 1), some (.int ru), some (.int 0), some (.int (nI k))] [] (sa, la, zRA pl dr cp cw (some rp)) K
  rw [b33_67, if_neg (show ¬ (700 : Int32) ≤ nI k from nI_nle1 (a := 700) (by omega) (by omega)), if_neg (fun y => y h.2.1), if_neg (fun y => y rfl), h.2.2.2.2.2.1, h.1.2.2.1]
  by_cases o0 : o = 0
  · rw [if_neg (show ¬ ¬ nI o = 0 from fun y => y (by rw [o0]; rfl)), if_pos (show ¬ nI (zkN b n i) = 4 from fun y => hn ⟨o0, (nI_eq (b := 4) (by omega) (by omega)).mp y⟩), if_pos rfl]
    exact hK
  · rw [if_pos (show ¬ nI o = 0 from fun y => o0 ((nI_eq (b := 0) (by omega) (by omega)).mp y)), if_pos rfl]
    exact hK
theorem yCS_go (hrp : zIsP rp) : ∀ (f x o i c : Nat) (l out : List (Nat × Nat)) (s w : List Nat) (k d : Nat) (ru v : Int32) (sa : Nat → Nat → Int32) (K : Option Value → zHP → Prop), yX x → 10 * (n - i) + yg x ≤ f → c ≤ 64 → o ≤ 8 → (x < 10 → v = 1 ∧ w = []) → (10 ≤ x → v = 0 ∧ (∀ e ∈ w, x - 10 ≤ yrk e) ∧ ybl (x - 10 + 1) w (zkN b n i)) → l = out ++ ymp w → ytop s < ytb x → (x = 5 ∨ x = 6 ∨ x = 7 → zkN b n i = 32 → 4 ≤ ytop s) → o ≤ s.length → w.length + s.length + out.length = c + o → k < i → yCS b n rp ia i o c out (w ++ s) sa →
    (∀ r w' k' out' sa', yPx b n f x o i c l = .ok r → yCS b n rp ia r.1 o r.2.1 out' (w' ++ s) sa' → r.2.2 = out' ++ ymp w' → (∀ e ∈ w', ylv x ≤ yrk e) → ybl (ylv x) w' (zkN b n r.1) → k' < r.1 → w'.length + s.length + out'.length = r.2.1 + o → yLH (d + 5) pl dr rp cp cw la ru 0 k' sa' K) →
    (∀ e k' v' sa', yPx b n f x o i c l = .error e → yCf rp ia e sa' → k' < 700 → yLH (d + 5) pl dr rp cp cw la ru v' (k' + 1) sa' K) →
    yLH (d + 5) pl dr rp cp cw la ru v k sa K := by
  intro f
  induction f with
  | zero =>
    intro x o i c l out s w k d ru v sa K hx hf
    have : 1 ≤ yg x := by unfold yg; split; omega; split; omega; split; omega; split; omega; split <;> omega
    omega
  | succ f ih =>
    intro x o i c l out s w k d ru v sa K hx hf hc ho hv1 hv0 hl ht hdn hos hcn hki hs hO hE
    have hi : i ≤ n := hs.1.1
    have h7 : n ≤ 700 := hs.1.2.1.1
    have hb := yTc_b hs.1
    obtain ⟨t1, t2, t3, t4, t5, _⟩ := yt_f hb hi
    have A := fun (x' o' i' c' : Nat) (l' : List (Nat × Nat)) (q1 : yX x') (q2 : i' ≤ n) (q3 : 10 * (n - i') + yg x' ≤ f) (q4 : c' ≤ 64) (r : Nat × Nat × List (Nat × Nat)) (q5 : yPx b n f x' o' i' c' l' = .ok r) => (yPx_A hb f x' o' i' c' l' q1 q2 q3 q4).2 r q5
    rcases hx with h | h | h | ⟨y, h, h2⟩
    · subst h
      have hf : 10 * (n - i) + 4 ≤ f + 1 := hf
      have ht : ytop s < 4 := ht
      obtain ⟨rfl, rfl⟩ := hv1 (by decide)
      have hl : l = out := by rw [hl]; exact List.append_nil _
      subst hl
      have hcn : 0 + s.length + l.length = c + o := hcn
      have hs : yCS b n rp ia i o c l s sa := hs
      by_cases k3 : zkN b n i = 32
      · have t3 := t3 (by omega)
        refine C_head1 hs hki ?_
        by_cases c6 : c = 64
        · refine C_opE2 hrp hs (Or.inr (Or.inr ⟨c6, Or.inr (Or.inr ⟨k3, by omega⟩)⟩)) (by omega) (by omega) (fun v ja hj => ?_)
          rw [kS, b33_114, ns]
          exact hE _ _ _ _ (yN_64 k3 c6) hj (by omega)
        refine C_opD hrp hs k3 (by omega) (by omega) (by omega) (fun ja hj => ?_)
        rw [kS, b33_114, ns]
        refine ih 3 o (zTn b n i) (c + 1) l l (32 :: s) [] (k + 1) d ru 1 ja K yX_3 (by show 10 * (n - zTn b n i) + 4 ≤ f; omega) (by omega) ho (fun _ => ⟨rfl, rfl⟩) (fun z => by omega) (List.append_nil _).symm (show 3 < 4 by decide) (fun z => by omega) (by show o ≤ s.length + 1; omega) (by show 0 + (s.length + 1) + l.length = c + 1 + o; omega) (by omega) hj (fun r w' k' out' sa' q1 q2 q3 q4 q5 q6 q7 => ?_) (fun e k' v' sa' q1 q2 q3 => hE e k' v' sa' (yN_er k3 c6 q1) q2 q3)
        refine hO (r.1, r.2.1, r.2.2 ++ [(32, 0)]) (w' ++ [32]) k' out' sa' (yN_ok k3 c6 q1) (by rw [List.append_assoc]; exact q2) ?_ (fun e he => ?_) (ybl_a q5) q6 ?_
        · show r.2.2 ++ [(32, 0)] = out' ++ ymp (w' ++ [32])
          rw [ymp_a, q3, List.append_assoc]; rfl
        · rcases List.mem_append.mp he with he | he
          · exact q4 e he
          · rw [List.mem_singleton.mp he]; decide
        · rw [List.length_append]
          have q7 : w'.length + (s.length + 1) + out'.length = r.2.1 + o := q7
          show w'.length + 1 + s.length + out'.length = r.2.1 + o
          omega
      · refine ih 5 o i c l l s [] k d ru 1 sa K yX_5 (by show 10 * (n - i) + 3 ≤ f; omega) hc ho (fun _ => ⟨rfl, rfl⟩) (fun z => by omega) (List.append_nil _).symm (show ytop s < 5 by omega) (fun _ z => absurd z k3) hos hcn hki hs (fun r w1 k' out' sa' q1 q2 q3 q4 q5 q6 q7 => ?_) (fun e k' v' sa' q1 q2 q3 => hE e k' v' sa' (yC_er k3 q1) q2 q3)
        have g := A 5 o _ _ _ yX_5 hi (by show 10 * (n - i) + 3 ≤ f; omega) hc r q1
        have g3 := g.2.2.1 (by decide)
        have q4 : ∀ e ∈ w1, 5 ≤ yrk e := q4
        have q5 : ybl 5 w1 (zkN b n r.1) := q5
        obtain ⟨s1, s2, s3, _⟩ := yt_f hb g.1
        by_cases k4 : yrk (zkN b n r.1) = 4
        · have kk := (yrk_i (zkN b n r.1)).2.2.2.1 k4
          have s3 := s3 (by omega)
          have w6 := g.2.2.2.2.1
          obtain ⟨z1, z2⟩ := ytw_a (r := 4) (t := s) ht w1 (fun e he => by have := q4 e he; omega)
          obtain ⟨_, z3⟩ := ytw_a (r := 5) (t := s) (by omega) w1 q4
          refine C_head0 q2 q6 ho (fun z => by omega) ?_
          refine C_sign (y := 4) hrp q2 k4 (by decide) (by decide) (by rw [List.length_append]; omega) (by rw [z1]; omega) (fun _ => by rw [z3]; omega) w6 (fun _ => by rw [z2]; omega) (fun c6 v ja hj => ?_) (fun c6 ja hj => ?_)
          · rw [kS, b33_121, ns]
            exact hE _ _ _ _ (yC_64 k3 q1 k4 c6) hj (by omega)
          · rw [kS, b33_121, ns]
            rw [z1, z2, ← q3] at hj
            have lr : r.2.2.length = out'.length + w1.length := by rw [q3, List.length_append, ymp_l]
            refine ih 5 o (zTn b n r.1) (r.2.1 + 1) r.2.2 r.2.2 (zkN b n r.1 :: s) [] (k' + 1) d ru 1 ja K yX_5 (by show 10 * (n - zTn b n r.1) + 3 ≤ f; omega) (by omega) ho (fun _ => ⟨rfl, rfl⟩) (fun z => by omega) (List.append_nil _).symm (show yrk (zkN b n r.1) < 5 by omega) (fun _ _ => show 4 ≤ yrk (zkN b n r.1) by omega) (by show o ≤ s.length + 1; omega) (by show 0 + (s.length + 1) + r.2.2.length = r.2.1 + 1 + o; omega) (by omega) hj (fun q w2 k2 out2 sb p1 p2 p3 p4 p5 p6 p7 => ?_) (fun e k2 v2 sb p1 p2 p3 => hE e k2 v2 sb (yC_e2 k3 q1 k4 (by omega) p1) p2 p3)
            have p4 : ∀ e ∈ w2, 5 ≤ yrk e := p4
            have p5 : ybl 5 w2 (zkN b n q.1) := p5
            refine hO (q.1, q.2.1, q.2.2 ++ [(zkN b n r.1, 0)]) (w2 ++ [zkN b n r.1]) k2 out2 sb (yC_ok k3 q1 k4 (by omega) p1) (by rw [List.append_assoc]; exact p2) ?_ (fun e he => ?_) ?_ p6 ?_
            · show q.2.2 ++ [(zkN b n r.1, 0)] = out2 ++ ymp (w2 ++ [zkN b n r.1])
              rw [ymp_a, p3, List.append_assoc]; rfl
            · show 3 ≤ yrk e
              rcases List.mem_append.mp he with he | he
              · have := p4 e he; omega
              · rw [List.mem_singleton.mp he]; omega
            · show ybl 3 (w2 ++ [zkN b n r.1]) (zkN b n q.1)
              rcases p5 with z | z | z
              · by_cases e4 : yrk (zkN b n q.1) = 4
                · exact Or.inr (Or.inr ⟨e4, w2, zkN b n r.1, [], rfl, p4, k4⟩)
                · by_cases e3 : yrk (zkN b n q.1) = 3
                  · exact Or.inr (Or.inl (yrk_32 e3))
                  · exact Or.inl (by omega)
              · exact Or.inr (Or.inl z)
              · exact absurd z.2 (ycm_no p4)
            · rw [List.length_append]
              have p7 : w2.length + (s.length + 1) + out2.length = q.2.1 + o := p7
              show w2.length + 1 + s.length + out2.length = q.2.1 + o
              omega
        · refine hO r w1 k' out' sa' (yC_no k3 q1 k4) q2 q3 (fun e he => by have := q4 e he; show 3 ≤ yrk e; omega) ?_ q6 q7
          show ybl 3 w1 (zkN b n r.1)
          rcases q5 with z | z | z
          · by_cases e3 : yrk (zkN b n r.1) = 3
            · exact Or.inr (Or.inl (yrk_32 e3))
            · exact Or.inl (by omega)
          · exact Or.inr (Or.inl z)
          · exact absurd z.1 k4
    · subst h
      have hf : 10 * (n - i) + 1 ≤ f + 1 := hf
      obtain ⟨rfl, rfl⟩ := hv1 (by decide)
      have hl : l = out := by rw [hl]; exact List.append_nil _
      subst hl
      have hcn : 0 + s.length + l.length = c + o := hcn
      have hs : yCS b n rp ia i o c l s sa := hs
      refine C_head1 hs hki ?_
      by_cases k5 : zkN b n i = 5
      · have t3 := t3 (by omega)
        by_cases o8 : o = 8
        · refine C_opE2 hrp hs (Or.inr (Or.inl ⟨k5, o8⟩)) (by omega) (by omega) (fun v ja hj => ?_)
          rw [kS, b33_114, ns]
          exact hE _ _ _ _ (yP_o8 k5 o8) hj (by omega)
        refine C_opO hrp hs k5 (by omega) (by omega) (fun ja hj => ?_)
        rw [kS, b33_114, ns]
        refine ih 1 (o + 1) (zTn b n i) c l l (5 :: s) [] (k + 1) d ru 1 ja K yX_1 (by show 10 * (n - zTn b n i) + 6 ≤ f; omega) hc (by omega) (fun _ => ⟨rfl, rfl⟩) (fun z => by omega) (List.append_nil _).symm (show yrk 5 < 1 by decide) (fun z => by omega) (by show o + 1 ≤ s.length + 1; omega) (by show 0 + (s.length + 1) + l.length = c + (o + 1); omega) (by omega) hj (fun r w' k' out' sa' q1 q2 q3 q4 q5 q6 q7 => ?_) (fun e k' v' sa' q1 q2 q3 => hE e k' v' sa' (yP_oe k5 o8 q1) q2 q3)
        have g := A 1 (o + 1) _ _ _ yX_1 t2 (by show 10 * (n - zTn b n i) + 6 ≤ f; omega) hc r q1
        have q7 : w'.length + (s.length + 1) + out'.length = r.2.1 + (o + 1) := q7
        have w6 := g.2.2.2.2.1
        have q4 : ∀ e ∈ w', 1 ≤ yrk e := q4
        have q5 : ybl 1 w' (zkN b n r.1) := q5
        have g1 := g.2.1
        refine C_head0 q2 q6 (by omega) (fun z => by omega) ?_
        by_cases k6 : zkN b n r.1 = 6
        · refine C_close hrp q2 k6 (by omega) q4 (by rw [List.length_append]; show w'.length + (s.length + 1) ≤ 72; omega) (by omega) (fun jb hb => ?_)
          rw [kS, b33_121, ns]
          obtain ⟨s1, s2, s3, _⟩ := yt_f (yTc_b hs.1) g.1
          have s3 := s3 (by omega)
          rw [← q3] at hb
          have lr : r.2.2.length = out'.length + w'.length := by rw [q3, List.length_append, ymp_l]
          refine hO (zTn b n r.1, r.2.1, r.2.2) [] (k' + 1) r.2.2 jb (yP_ok k5 o8 q1 k6) hb (List.append_nil _).symm (fun e he => absurd he List.not_mem_nil) (Or.inl ?_) (by show k' + 1 < zTn b n r.1; omega) (by show 0 + s.length + r.2.2.length = r.2.1 + o; omega)
          have := (yrk_i (zkN b n (zTn b n r.1))).2.2.2.2.2.2
          show yrk (zkN b n (zTn b n r.1)) < 7
          omega
        · have hsl : (w' ++ 5 :: s).length ≤ 72 := by rw [List.length_append]; show w'.length + (s.length + 1) ≤ 72; omega
          refine C_block hrp q2 (by omega) ?_ hsl (by omega) (fun _ => ?_) (fun v ja hj => ?_)
          · rcases q5 with z | z | z
            · exact Or.inl ⟨by omega, fun y => k6 y.1⟩
            · exact Or.inr (Or.inl z)
            · exact Or.inr (Or.inr ⟨z.1, ycm_t z.2⟩)
          · have := ytw_5 (s := s) w'
            omega
          · rw [kS, b33_121, ns]
            exact hE _ _ _ _ (yP_on k5 o8 q1 k6) hj (by have := g.1; omega)
      by_cases k2 : zkN b n i = 2
      · have t3 := t3 (by omega)
        by_cases hv : 9999 < zTv b n i
        · refine C_opE2 hrp hs (Or.inl ⟨k2, hv⟩) (by omega) (by omega) (fun v ja hj => ?_)
          rw [kS, b33_114, ns]
          exact hE _ _ _ _ (yP_n2 k2 hv) hj (by omega)
        by_cases c6 : c = 64
        · refine C_opE2 hrp hs (Or.inr (Or.inr ⟨c6, Or.inl k2⟩)) (by omega) (by omega) (fun v ja hj => ?_)
          rw [kS, b33_114, ns]
          exact hE _ _ _ _ (yP_n6 k2 hv c6) hj (by omega)
        refine C_opV hrp hs (Or.inl ⟨k2, by omega⟩) (by omega) (by omega) (by omega) (fun ja hj => ?_)
        rw [kS, b33_114, ns]
        rw [k2] at hj
        refine hO (zTn b n i, c + 1, l ++ [(2, zTv b n i)]) [] (k + 1) (l ++ [(2, zTv b n i)]) ja (yP_nk k2 hv c6) hj (List.append_nil _).symm (fun e he => absurd he List.not_mem_nil) (Or.inl ?_) (by show k + 1 < zTn b n i; omega) (by rw [List.length_append]; show 0 + s.length + (l.length + 1) = c + 1 + o; omega)
        have := (yrk_i (zkN b n (zTn b n i))).2.2.2.2.2.2
        show yrk (zkN b n (zTn b n i)) < 7
        omega
      by_cases k3 : 33 ≤ zkN b n i
      · have t3 := t3 (by omega)
        by_cases c6 : c = 64
        · refine C_opE2 hrp hs (Or.inr (Or.inr ⟨c6, Or.inr (Or.inl k3)⟩)) (by omega) (by omega) (fun v ja hj => ?_)
          rw [kS, b33_114, ns]
          exact hE _ _ _ _ (yP_m6 k3 c6) hj (by omega)
        refine C_opV hrp hs (Or.inr k3) (by omega) (by omega) (by omega) (fun ja hj => ?_)
        rw [kS, b33_114, ns]
        refine hO (zTn b n i, c + 1, l ++ [(zkN b n i, zTv b n i)]) [] (k + 1) (l ++ [(zkN b n i, zTv b n i)]) ja (yP_mk k3 c6) hj (List.append_nil _).symm (fun e he => absurd he List.not_mem_nil) (Or.inl ?_) (by show k + 1 < zTn b n i; omega) (by rw [List.length_append]; show 0 + s.length + (l.length + 1) = c + 1 + o; omega)
        have := (yrk_i (zkN b n (zTn b n i))).2.2.2.2.2.2
        show yrk (zkN b n (zTn b n i)) < 7
        omega
      refine C_opE1 hrp hs k2 k3 k5 (fun z => by have := hdn (Or.inr (Or.inr rfl)) z.1; omega) (by omega) (by omega) (fun v ja hj => ?_)
      rw [kS, b33_114, ns]
      exact hE _ _ _ _ (yP_1 k5 k2 k3) hj (by omega)
    · obtain ⟨g1, g2, g3, g4, g5, g6⟩ := yg_sub h
      obtain ⟨rfl, rfl⟩ := hv1 g6
      have hl : l = out := by rw [hl]; exact List.append_nil _
      subst hl
      have tb : ytop s < ytb (ysub x) ∧ ylv (ysub x) = x + 1 ∧ ylv x = x ∧ ytb (x + 10) = ytb x ∧ ylv (x + 10) = x := by
        rcases h with h | h | h | h <;> subst h
        · exact ⟨Nat.lt_trans ht (by decide), rfl, rfl, rfl, rfl⟩
        · exact ⟨Nat.lt_trans ht (by decide), rfl, rfl, rfl, rfl⟩
        · exact ⟨Nat.lt_trans ht (by decide), rfl, rfl, rfl, rfl⟩
        · exact ⟨Nat.lt_trans ht (by decide), rfl, rfl, rfl, rfl⟩
      obtain ⟨b1, b2, b3, b4, b5⟩ := tb
      have dn : (ysub x = 5 ∨ ysub x = 6 ∨ ysub x = 7) → zkN b n i = 32 → 4 ≤ ytop s := by
        rcases h with h | h | h | h <;> subst h
        · intro z; exact absurd z (by decide)
        · intro z; exact absurd z (by decide)
        · intro _; exact hdn (Or.inl rfl)
        · intro _; exact hdn (Or.inr (Or.inl rfl))
      refine ih (ysub x) o i c l l s [] k d ru 1 sa K (yX_sub h) (by omega) hc ho (fun _ => ⟨rfl, rfl⟩) (fun z => by omega) (List.append_nil _).symm b1 dn hos hcn hki hs (fun r w' k' out' sa' q1 q2 q3 q4 q5 q6 q7 => ?_) (fun e k' v' sa' q1 q2 q3 => hE e k' v' sa' (yB_er h q1) q2 q3)
      have g := A (ysub x) o _ _ _ (yX_sub h) hi (by omega) hc r q1
      have g3 := g.2.2.1 g5
      rw [b2] at q4 q5
      refine ih (x + 10) o r.1 r.2.1 r.2.2 out' s w' k' d ru 0 sa' K (yX_lp h) (by omega) g.2.2.2.2.1 ho (fun z => by omega) (fun _ => ⟨rfl, fun e he => by have := q4 e he; omega, by rw [show x + 10 - 10 = x by omega]; exact q5⟩) q3 (by rw [b4]; exact ht) (fun z => by omega) hos q7 q6 q2 (fun r2 w2 k2 out2 sb p1 p2 p3 p4 p5 p6 p7 => ?_) (fun e k2 v2 sb p1 p2 p3 => hE e k2 v2 sb ((yB_ok h q1).trans p1) p2 p3)
      rw [b5] at p4 p5
      exact hO r2 w2 k2 out2 sb ((yB_ok h q1).trans p1) p2 p3 (by rw [b3]; exact p4) (by rw [b3]; exact p5) p6 p7
    · subst h2
      obtain ⟨g1, g2, g3, g4, g5, g6⟩ := yg_sub h
      obtain ⟨rfl, hw, hbl⟩ := hv0 (by omega)
      rw [show y + 10 - 10 = y by omega] at hw hbl
      have tb : ytb (y + 10) = y ∧ ylv (y + 10) = y ∧ ylv (ysub y) = y + 1 ∧ y < ytb (ysub y) ∧ 1 ≤ y ∧ ¬ y = 3 ∧ ¬ y = 4 := by
        rcases h with h | h | h | h <;> subst h <;> decide
      obtain ⟨b1, b2, b3, b4, b5, b6, b7⟩ := tb
      rw [b1] at ht
      by_cases ky : yrk (zkN b n i) = y
      · have t3 := t3 (fun z => by rw [z] at ky; have : y = 0 := ky.symm; omega)
        obtain ⟨z1, z2⟩ := ytw_a ht w hw
        refine C_head0 hs hki ho (fun z => by rw [z.2] at ky; have : y = 0 := ky.symm; omega) ?_
        refine C_sign hrp hs ky b5 b6 (by rw [List.length_append]; omega) (by rw [z1]; omega) (fun z => absurd z b7) hc (fun _ => by rw [z2]; omega) (fun c6 v ja hj => ?_) (fun c6 ja hj => ?_)
        · rw [kS, b33_121, ns]
          exact hE _ _ _ _ (yL_64 h ky c6) hj (by omega)
        · rw [kS, b33_121, ns]
          rw [z1, z2, ← hl] at hj
          have lr : l.length = out.length + w.length := by rw [hl, List.length_append, ymp_l]
          have dn : (ysub y = 5 ∨ ysub y = 6 ∨ ysub y = 7) → 4 ≤ yrk (zkN b n i) := by
            rw [ky]
            rcases h with h | h | h | h <;> subst h <;> decide
          refine ih (ysub y) o (zTn b n i) (c + 1) l l (zkN b n i :: s) [] (k + 1) d ru 1 ja K (yX_sub h) (by omega) (by omega) ho (fun _ => ⟨rfl, rfl⟩) (fun z => by omega) (List.append_nil _).symm (show yrk (zkN b n i) < ytb (ysub y) by omega) (fun z _ => dn z) (by show o ≤ s.length + 1; omega) (by show 0 + (s.length + 1) + l.length = c + 1 + o; omega) (by omega) hj (fun r w' k' out' sa' q1 q2 q3 q4 q5 q6 q7 => ?_) (fun e k' v' sa' q1 q2 q3 => hE e k' v' sa' (yL_er h ky (by omega) q1) q2 q3)
          have g := A (ysub y) o _ _ _ (yX_sub h) t2 (by omega) (by omega) r q1
          have g3 := g.2.2.1 g5
          rw [b3] at q4 q5
          have q7 : w'.length + (s.length + 1) + out'.length = r.2.1 + o := q7
          refine ih (y + 10) o r.1 r.2.1 (r.2.2 ++ [(zkN b n i, 0)]) out' s (w' ++ [zkN b n i]) k' d ru 0 sa' K (yX_lp h) (by omega) g.2.2.2.2.1 ho (fun z => by omega) (fun _ => ⟨rfl, fun e he => ?_, ?_⟩) ?_ (by rw [b1]; exact ht) (fun z => by omega) hos ?_ q6 (by rw [List.append_assoc]; exact q2) (fun r2 w2 k2 out2 sb p1 p2 p3 p4 p5 p6 p7 => hO r2 w2 k2 out2 sb ((yL_ok h ky (by omega) q1).trans p1) p2 p3 p4 p5 p6 p7) (fun e k2 v2 sb p1 p2 p3 => hE e k2 v2 sb ((yL_ok h ky (by omega) q1).trans p1) p2 p3)
          · rw [show y + 10 - 10 = y by omega]
            rcases List.mem_append.mp he with he | he
            · have := q4 e he; omega
            · rw [List.mem_singleton.mp he]; omega
          · rw [show y + 10 - 10 = y by omega]
            exact ybl_a q5
          · rw [ymp_a, q3, List.append_assoc]; rfl
          · rw [List.length_append]; show w'.length + 1 + s.length + out'.length = r.2.1 + o; omega
      · refine hO (i, c, l) w k out sa (yL_no h ky) hs hl (by rw [b2]; exact hw) ?_ hki hcn
        rw [b2]
        rcases hbl with z | z | z
        · exact Or.inl (by show yrk (zkN b n i) < y; omega)
        · exact Or.inr (Or.inl z)
        · exact Or.inr (Or.inr z)
end ZP
