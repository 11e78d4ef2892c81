/-! the reference's lines: letters, settings, laws; all lines -/
section ZP
variable {d pl dr n i N L T t ln : Nat} {cp cw rp : Option Nat} {b : Nat → Nat} {ia sa : Nat → Nat → Int32} {la : Nat → Nat → Int64} {K : Option Value → zHP → Prop} {l : List (Nat × Nat)} {P : Nat → Nat → Nat} {D : Nat → Nat → Prop} {e : Nat × Nat}
theorem R_let (h : yML b n ia (yDm N L T) (yit b n 1 i) N L T t P l ln sa) (w : yW1 N L T t P l) (c0 : ¬ T = 12) (hO : ∀ st, yBlet b n N L T t P l i = .ok st → zkN b n st.1 = 4 → ∀ ja, yMLs b n ia (zTn b n st.1, st.2) (ln + 1) ja → K none (ja, la, zRA pl dr cp cw rp)) (hE : ∀ e, yEr b n (yBlet b n N L T t P l i) e → ∀ ja, yMe ia e ja → K none (ja, la, zRA pl dr cp cw rp)) : zWP (d + 11) 149 94 [some (.ref 127), some (.int 2), none, none] [] (sa, la, zRA pl dr cp cw rp) K := by
  have hN := w.1
  have hT := w.2.2.1
  unfold yBlet at hO hE
  rw [if_neg c0, yTh_0 rfl] at hO hE
  have up : ∀ c, 138 ≤ c → c ≤ 140 → 129 ≤ c ∧ c ≤ 144 ∧ yhf c ≤ 12 + T := by
    intro c g1 g2
    refine ⟨by omega, by omega, ?_⟩
    have : yhf c = 12 := by unfold yhf; rw [if_neg (by omega), if_neg (by omega), if_neg (by omega), if_neg (by omega), if_neg (by omega), if_pos (by omega)]
    rw [this]; omega
  have dk : ∀ k, k < 3 → yDok (16 + T) k := fun k hk => Or.inr (Or.inr (Or.inr (Or.inr (Or.inl ⟨by omega, by omega, hk⟩))))
  have m1 : ∀ k, k < 3 → 138 + k = ymc1 (16 + T) k := fun k hk => by unfold ymc1; rw [if_neg (by omega), if_neg (by omega), if_neg (by omega), if_neg (by omega), if_pos (by omega)]
  have m2 : ∀ k, k < 3 → 12 + T = ymc2 (16 + T) k := fun k hk => by unfold ymc2; rw [if_neg (by omega), if_neg (by omega), if_neg (by omega), if_neg (by omega), if_pos (by omega)]; omega
  have f69 : ∀ e (ja : Nat → Nat → Int32) (x : Int32), (∀ ja, yMe ia e ja → K none (ja, la, zRA pl dr cp cw rp)) → yMe ia e ja → zWP (d + 11) 149 269 [some (.ref 127), some (.int 2), none, some (.int (nI (12 + T)))] [.int x, .int (nI (12 + T)), .ref 140] (ja, la, zRA pl dr cp cw rp) K := by
    intro e ja x hx hj
    have h3 := fun y => Fe_w (c := 129) (k := 9) (v := y) (Fe_w (c := 140) (k := 12 + T) (v := x) hj (up 140 (by decide) (by decide))) ⟨by decide, by decide, by decide⟩
    rw [b149_269, zg (by omega) (by omega), zcln (by omega), S_frs (j := 2) (u := 2) rfl (by decide), kS, b149_277, S_rds (j := 2) (u := 2) rfl (by decide), kN, b149_282, if_neg (yMe_n (h3 _))]
    exact hx _ (h3 _)
  have f56 : ∀ e (ja : Nat → Nat → Int32) (x : Int32), (∀ ja, yMe ia e ja → K none (ja, la, zRA pl dr cp cw rp)) → yMe ia e ja → zWP (d + 11) 149 256 [some (.ref 127), some (.int 2), none, some (.int (nI (12 + T)))] [.int x, .int (nI (12 + T)), .ref 139] (ja, la, zRA pl dr cp cw rp) K := by
    intro e ja x hx hj
    have hj := Fe_w (c := 139) (k := 12 + T) (v := x) hj (up 139 (by decide) (by decide))
    rw [b149_256, zg (by omega) (by omega), zcln (by omega), Fe_num (yMe_n hj), kS]
    exact f69 e _ _ hx hj
  rw [b149_94, if_neg (by decide), if_neg (by decide), if_pos rfl, S_frs (j := 2) (u := 2) rfl (by decide), kS, b149_235, h.2.2.2.2.2.2.2.2.2.1, show (12 : Int32) + nI T = nI (12 + T) from by rw [show (12 : Int32) = nI 12 from rfl, nI_add]]
  refine N_ahd h (yNm_D w (fun k hk => yDm_1 hk)) (fun c1 j2 h2 => ?_) (fun c1 x ja hj => ?_)
  case refine_2 =>
    have hj := Fe_w (c := 138) (k := 12 + T) (v := x) hj (up 138 (by decide) (by decide))
    rw [kS, b149_246, zg (by omega) (by omega), zcln (by omega), Fe_ahd (yMe_n hj), kS]
    exact f56 _ _ _ (fun jb hb => hE _ (Or.inl (yTh_n c1)) jb hb) hj
  rw [yTh_0 c1] at hO hE
  rw [kS, b149_246, zg (by omega) (by omega), zcln (by omega)]
  have h2 := N_w (g := 16 + T) (k := 0) (v := yfi P (zTv b n (yit b n 1 i)) N 0) h2 (dk 0 (by decide)) (m1 0 (by decide)) (m2 0 (by decide))
  have h21 : ∀ k, k < N → (zu P (16 + T) 0 (yfi P (zTv b n (yit b n 1 i)) N 0)) 1 k = P 1 k := fun k _ => by rw [zu_o (by omega)]
  have yf : ∀ v f k, yfi (zu P (16 + T) 0 (yfi P (zTv b n (yit b n 1 i)) N 0)) v f k = yfi P v f k := by
    intro v f
    induction f with
    | zero => intro k; rfl
    | succ f ih => intro k; unfold yfi; rw [zu_o (by omega), ih]
  have co : ∀ ow j, ycO b n (zu P (16 + T) 0 (yfi P (zTv b n (yit b n 1 i)) N 0)) N ow j = ycO b n P N ow j := fun ow j => by unfold ycO; rw [yf]
  refine N_ahd h2 ⟨hN, fun k hk => ⟨Or.inl (yDm_1 hk), by rw [h21 k hk]; exact w.2.2.2.2.2 k hk⟩⟩ (fun c2 j3 h3 => ?_) (fun c2 x ja hj => ?_)
  case refine_2 =>
    rw [co] at c2 hj
    rw [kS]
    exact f56 _ _ _ (fun jb hb => hE _ (Or.inl (yTh_n c2)) jb hb) hj
  rw [co] at c2
  rw [yTh_0 (show ycO b n P N 9 (yit b n 2 i) = 0 from c2)] at hO hE
  rw [kS, yf, b149_256, zg (by omega) (by omega), zcln (by omega)]
  have h3 := N_w (g := 16 + T) (k := 1) (v := yfi P (zTv b n (yit b n 2 i)) N 0) h3 (dk 1 (by decide)) (m1 1 (by decide)) (m2 1 (by decide))
  refine N_num (d := d + 1) (lo := 0) (hi := 99) h3 rfl rfl (by decide) (by decide) (fun c3 j4 h4 => ?_) (fun c3 x ja hj => ?_)
  case refine_2 =>
    rw [kS]
    exact f69 _ _ _ (fun jb hb => hE _ (Or.inl (yTh_n c3)) jb hb) hj
  rw [yTh_0 (show ycN b n 0 99 (yit b n 3 i) = 0 from c3)] at hO hE
  rw [kS, b149_269, zg (by omega) (by omega), zcln (by omega), S_frs (j := 2) (u := 2) rfl (by decide), kS, b149_277]
  have h4 := N_w (g := 16 + T) (k := 2) (v := zTv b n (yit b n 3 i)) h4 (dk 2 (by decide)) (show 140 = ymc1 (16 + T) 2 from m1 2 (by decide)) (m2 2 (by decide))
  have e9 : zu j4 140 (12 + T) (nI (zTv b n (zTn b n (zTn b n (yit b n 1 i))))) 129 (7 + 2) = nI T := h4.2.2.2.2.2.2.2.2.2.1
  rw [e9, ns, S_rds (j := 2) (u := 2) rfl (by decide), kN, b149_282, show zTv b n (zTn b n (zTn b n (yit b n 1 i))) = zTv b n (yit b n 3 i) from rfl]
  have h7 := N_n (k := 2) (v := T + 1) h4 (by decide)
  rw [if_pos h7.2.1]
  have h8 : yML b n ia (yDm N L (T + 1)) (yit b n 4 i) N L (T + 1) t (zu (zu (zu P (16 + T) 0 (yfi P (zTv b n (yit b n 1 i)) N 0)) (16 + T) 1 (yfi P (zTv b n (yit b n 2 i)) N 0)) (16 + T) 2 (zTv b n (yit b n 3 i))) l ln _ := yML_m h7 (fun g k hg => by
    rcases hg with hg | hg | hg | hg | ⟨g1, g2, g3⟩ | hg
    · exact Or.inl (Or.inl (Or.inl (Or.inl hg)))
    · exact Or.inl (Or.inl (Or.inl (Or.inr (Or.inl hg))))
    · exact Or.inl (Or.inl (Or.inl (Or.inr (Or.inr (Or.inl hg)))))
    · exact Or.inl (Or.inl (Or.inl (Or.inr (Or.inr (Or.inr (Or.inl hg))))))
    · by_cases q : g = 16 + T
      · have hk : k = 0 ∨ k = 1 ∨ k = 2 := by omega
        rcases hk with hk | hk | hk
        · exact Or.inl (Or.inl (Or.inr ⟨q, hk⟩))
        · exact Or.inl (Or.inr ⟨q, hk⟩)
        · exact Or.inr ⟨q, hk⟩
      · exact Or.inl (Or.inl (Or.inl (Or.inr (Or.inr (Or.inr (Or.inr (Or.inl ⟨g1, by omega, g3⟩)))))))
    · exact Or.inl (Or.inl (Or.inl (Or.inr (Or.inr (Or.inr (Or.inr (Or.inr hg))))))))
  exact N_semi (d := d + 1) h8 (fun k4 ja hj => hO _ rfl k4 ja hj) (fun k4 ja hj => hE _ (Or.inr ⟨_, rfl, k4, rfl⟩) ja hj)
theorem R_set (j : Nat) (hj3 : j < 3) (hk : zkN b n i = 23 + j) (ht : t.testBit j = false) (h : yML b n ia (yDm N L T) (yit b n 1 i) N L T (t ||| 2 ^ j) P l ln sa) (hO : ∀ st, yBset b n N L T t P l i = .ok st → zkN b n st.1 = 4 → ∀ ja, yMLs b n ia (zTn b n st.1, st.2) (ln + 1) ja → K none (ja, la, zRA pl dr cp cw rp)) (hE : ∀ e, yEr b n (yBset b n N L T t P l i) e → ∀ ja, yMe ia e ja → K none (ja, la, zRA pl dr cp cw rp)) : zWP (d + 10) 149 94 [some (.ref 127), some (.int (nI (3 + j))), none, none] [] (sa, la, zRA pl dr cp cw rp) K := by
  unfold yBset at hO hE
  rw [hk, show 23 + j - 23 = j by omega, if_neg (show ¬ t.testBit j = true by rw [ht]; decide), yTh_0 rfl] at hO hE
  obtain ⟨hi, ehi⟩ : ∃ hi, hi = (if 23 + j = 25 then 99999 else 100) := ⟨_, rfl⟩
  rw [← ehi] at hO hE
  have hi9 : hi < 100000 := by rw [ehi]; split <;> omega
  -- what is behind the number
  have ok : ycN b n 0 hi (yit b n 1 i) = 0 → ∀ ja, yML b n ia (yDm N L T) (yit b n 2 i) N L T (t ||| 2 ^ j) P l ln ja → ∀ (i1 : Int32), zWM (d + 9) 139 [.ref 127, .int 59] (zu ja 129 (10 + j) (nI (zTv b n (yit b n 1 i))), la, zRA pl dr cp cw rp) (zK (d + 10) 149 348 [some (.ref 127), some (.int i1), none, none] [] K) ∧ zu ja 129 (10 + j) (nI (zTv b n (yit b n 1 i))) 127 26 = 0 := by
    intro c1 ja h1 i1
    rw [yTh_0 c1] at hO hE
    have h2 := N_w (g := 28) (k := j) (v := zTv b n (yit b n 1 i)) h1 (Or.inr (Or.inr (Or.inr (Or.inr (Or.inr ⟨by decide, by decide, hj3⟩))))) (show 129 = ymc1 28 j from rfl) (show 10 + j = ymc2 28 j from rfl)
    have h3 : yML b n ia (yDm N L T) (yit b n 2 i) N L T (t ||| 2 ^ j) (zu P 28 j (zTv b n (yit b n 1 i))) l ln _ := yML_m h2 (fun g k hg => Or.inl hg)
    exact ⟨N_semi h3 (fun k4 ja hj => hO _ rfl k4 ja hj) (fun k4 ja hj => hE _ (Or.inr ⟨_, rfl, k4, rfl⟩) ja hj), h3.2.1⟩
  have er : ∀ ja, ¬ ycN b n 0 hi (yit b n 1 i) = 0 → yMe ia (ycN b n 0 hi (yit b n 1 i), zTp b n (yit b n 1 i)) ja → ∀ x : Int32, ¬ zu ja 129 (10 + j) x 127 26 = 0 ∧ K none (zu ja 129 (10 + j) x, la, zRA pl dr cp cw rp) := by
    intro ja c1 h1 x
    have h2 := Fe_w (c := 129) (k := 10 + j) (v := x) h1 ⟨by decide, by decide, show 7 ≤ 10 + j by omega⟩
    exact ⟨yMe_n h2, hE _ (Or.inl (yTh_n c1)) _ h2⟩
  have hj : j = 0 ∨ j = 1 ∨ j = 2 := by omega
  rcases hj with rfl | rfl | rfl
  · rw [b149_94, if_neg (by decide), if_neg (by decide), if_neg (by decide), if_pos (by decide)]
    refine N_num (d := d) (lo := 0) (hi := hi) h rfl (by rw [ehi]; rfl) (by decide) hi9 (fun c1 j1 h1 => ?_) (fun c1 x ja hj => ?_)
    · obtain ⟨q1, q2⟩ := ok c1 j1 h1 (nI (3 + 0))
      rw [kS, b149_294, S_rds (j := 3) (u := 3) rfl (by decide), kN, b149_297, if_pos q2]; exact q1
    · obtain ⟨q1, q2⟩ := er ja c1 hj x
      rw [kS, b149_294, S_rds (j := 3) (u := 3) rfl (by decide), kN, b149_297, if_neg q1]; exact q2
  · rw [b149_94, if_neg (by decide), if_neg (by decide), if_neg (by decide), if_neg (by decide), if_pos (by decide)]
    refine N_num (d := d) (lo := 0) (hi := hi) h rfl (by rw [ehi]; rfl) (by decide) hi9 (fun c1 j1 h1 => ?_) (fun c1 x ja hj => ?_)
    · obtain ⟨q1, q2⟩ := ok c1 j1 h1 (nI (3 + 1))
      rw [kS, b149_309, S_rds (j := 4) (u := 4) rfl (by decide), kN, b149_312, if_pos q2]; exact q1
    · obtain ⟨q1, q2⟩ := er ja c1 hj x
      rw [kS, b149_309, S_rds (j := 4) (u := 4) rfl (by decide), kN, b149_312, if_neg q1]; exact q2
  · rw [b149_94, if_neg (by decide), if_neg (by decide), if_neg (by decide), if_neg (by decide), if_neg (by decide), if_pos (by decide)]
    refine N_num (d := d) (lo := 0) (hi := hi) h rfl (by rw [ehi]; rfl) (by decide) hi9 (fun c1 j1 h1 => ?_) (fun c1 x ja hj => ?_)
    · obtain ⟨q1, q2⟩ := ok c1 j1 h1 (nI (3 + 2))
      rw [kS, b149_324, S_rds (j := 5) (u := 5) rfl (by decide), kN, b149_327, if_pos q2]; exact q1
    · obtain ⟨q1, q2⟩ := er ja c1 hj x
      rw [kS, b149_324, S_rds (j := 5) (u := 5) rfl (by decide), kN, b149_327, if_neg q1]; exact q2
/-- a word of the language: its number -/
theorem yTo_wd {sa : Nat → Nat → Int32} (h : yTo b n i sa) : (20 ≤ zkN b n i → sa 127 24 = 0 ∧ sa 127 25 = nI (zkN b n i - 20)) ∧ (¬ 20 ≤ zkN b n i → ¬ sa 127 24 = 0) := by
  rcases h.2.2.2 with ⟨q, s⟩ | ⟨q, s⟩ | ⟨q, s, v⟩ | ⟨q, s, v⟩ | ⟨q, q', s, v⟩ | ⟨q, q', s, v⟩
  · exact ⟨fun z => by omega, fun _ => by rw [s]; decide⟩
  · exact ⟨fun z => by omega, fun _ => by rw [s]; decide⟩
  · exact ⟨fun z => by omega, fun _ => by rw [s]; decide⟩
  · exact ⟨fun z => by omega, fun _ => by rw [s]; decide⟩
  · exact ⟨fun z => by omega, fun _ => by rw [s]; decide⟩
  · exact ⟨fun _ => ⟨s, v⟩, fun z => absurd q z⟩
theorem N_td {t' u' : Nat} (h : yML b n ia D i N L T t P l ln sa) (hu : yTd t' u') : yML b n ia D i N L T t' P l ln (zu sa 127 19 (nI u')) := by
  obtain ⟨q1, q2, q3, _, q5, q6, q7, q8, q9, q10, q11, q12, q13, q14⟩ := h
  refine ⟨yTo_e q1 (fun k _ _ => zu_k (by omega)) (fun j _ => by rw [zu_o (by decide)]), by rw [zu_k (by decide)]; exact q2, by rw [zu_k (by decide)]; exact q3, ⟨u', zu_eq _ _ _ _, hu⟩, by rw [zu_k (by decide)]; exact q5, by rw [zu_k (by decide)]; exact q6, by rw [zu_k (by decide)]; exact q7, by rw [zu_o (by decide)]; exact q8, by rw [zu_o (by decide)]; exact q9, by rw [zu_o (by decide)]; exact q10, by rw [zu_o (by decide)]; exact q11, fun a p hp => ⟨(q12 a p hp).1, ?_⟩, fun j hj => by rw [zu_o (by decide), zu_o (by decide)]; exact q13 j hj, yFm_u q14 (Or.inl ⟨rfl, by decide, by decide, by decide, by decide, by decide⟩)⟩
  have := (ymc_o (q12 a p hp).1).1
  rw [zu_o (by omega)]; exact (q12 a p hp).2
theorem yW_Um {c k : Nat} (h : yW c k) : yUm c k := by
  rcases h with h | h | h
  · exact Or.inl ⟨h.1, by omega, by omega, by omega, by omega, by omega⟩
  · exact Or.inr ⟨by omega, by omega, by rw [h.1, h.2]; decide⟩
  · rcases h with ⟨h1 | h1, h2⟩
    · exact Or.inr ⟨by omega, by omega, by rw [h1]; exact h2⟩
    · exact Or.inr ⟨by omega, by omega, by rw [h1]; exact h2⟩
theorem R_law (h : yML b n ia (yDm N L T) (yit b n 1 i) N L T t P l ln sa) (w : yW1 N L T t P l) (hO : ∀ st, yBlaw b n N L T t P l i = .ok st → ∀ ja, yMLs b n ia st ln ja → K none (ja, la, zRA pl dr cp cw rp)) (hE : ∀ e, yBlaw b n N L T t P l i = .error e → ∀ ja, yMe ia e ja → K none (ja, la, zRA pl dr cp cw rp)) : zWM (d + 180) 151 [.ref 127] (sa, la, zRA pl dr cp cw rp) K := by
  have h6 : l.length ≤ 64 := w.2.2.2.2.1
  have hb := yTo_b h.1
  have hi1 := h.1.1
  have uB : yBlaw b n N L T t P l i = yTh b n (if 27 ≤ zkN b n (yit b n 1 i) ∧ zkN b n (yit b n 1 i) ≤ 29 then (if t.testBit (3 + (zkN b n (yit b n 1 i) - 27)) = true then 3 else 0) else 1) (yit b n 1 i) (match yPx b n (yfuel n) 1 0 (yit b n 2 i) l.length l with
     | .error e => .error e
     | .ok r => .ok (r.1, N, L, T, t ||| 2 ^ (3 + (zkN b n (yit b n 1 i) - 27)), zu (zu P 29 (zkN b n (yit b n 1 i) - 27) l.length) 30 (zkN b n (yit b n 1 i) - 27) r.2.2.length, r.2.2)) := rfl
  obtain ⟨k4, _, i2n⟩ := yML_k h
  have f65 : ∀ (i1 : Int32) (ja : Nat → Nat → Int32) (e : Nat × Nat), yBlaw b n N L T t P l i = .error e → yMe ia e ja → zWP (d + 180) 151 65 [some (.ref 127), some (.int i1)] [] (ja, la, zRA pl dr cp cw rp) K := by
    intro i1 ja e he hj
    rw [b151_65, if_neg (yMe_n hj)]; exact hE _ he _ hj
  rw [e151, b151_0]
  by_cases kr : 27 ≤ zkN b n (yit b n 1 i) ∧ zkN b n (yit b n 1 i) ≤ 29
  case neg =>
    rw [if_neg kr, yTh_n (by decide)] at uB
    have fl : zWM (d + 179) 137 [.ref 127, .int 1] (sa, la, zRA pl dr cp cw rp) (zK (d + 180) 151 30 [some (.ref 127), none] [] K) := N_wr h rfl (by decide) (by decide) (fun ja hj => by rw [kN, b151_30, if_pos (yMe_n hj)]; exact f65 _ _ _ uB hj)
    by_cases kw : 20 ≤ zkN b n (yit b n 1 i)
    · obtain ⟨v1, v2⟩ := (yTo_wd h.1).1 kw
      rw [v1, if_neg (fun y => y rfl), v2]
      by_cases c : zkN b n (yit b n 1 i) < 27
      · rw [if_pos (show nI (zkN b n (yit b n 1 i) - 20) < 7 from nI_lt (b := 7) (by omega) (by omega))]; exact fl
      · rw [if_neg (show ¬ nI (zkN b n (yit b n 1 i) - 20) < 7 from nI_nlt (b := 7) (by omega) (by omega)), if_neg (show ¬ nI (zkN b n (yit b n 1 i) - 20) ≤ 9 from nI_nle1 (b := 9) (by omega) (by omega))]; exact fl
    · rw [if_pos ((yTo_wd h.1).2 kw)]; exact fl
  rw [if_pos kr] at uB
  obtain ⟨rr, hrr⟩ : ∃ rr, rr = zkN b n (yit b n 1 i) - 27 := ⟨_, rfl⟩
  have hr3 : rr < 3 := by omega
  rw [← hrr] at uB
  obtain ⟨v1, v2⟩ := (yTo_wd h.1).1 (by omega)
  have e7 : sa 127 25 - 7 = nI rr := by rw [v2, show (7 : Int32) = nI 7 from rfl, pk_sub (by omega), hrr]; congr 1
  obtain ⟨u, q4, q4'⟩ := h.2.2.2.1
  have tb := q4'.2.2 rr hr3
  rw [if_neg (fun y => y v1), if_neg (show ¬ sa 127 25 < 7 by rw [v2]; exact nI_nlt (b := 7) (by omega) (by omega)), if_pos (show sa 127 25 ≤ 9 by rw [v2]; exact nI_le1 (b := 9) (by omega) (by omega)), b151_30, if_neg (fun y => y h.2.1), e7, q4, show (16 : Int32) + nI rr = nI (16 + rr) from by rw [show (16 : Int32) = nI 16 from rfl, nI_add], ybit q4'.1 (by omega), tb]
  by_cases c0 : t.testBit (3 + rr) = true
  · rw [c0, if_pos rfl, yTh_n (by decide)] at uB
    rw [if_pos c0, if_neg (fun y => y rfl)]
    refine N_wr h rfl (by decide) (by decide) (fun ja hj => ?_)
    rw [kN]; exact f65 _ _ _ uB hj
  rw [if_neg c0, if_pos (by decide), b151_65, if_pos h.2.1, q4, show (16 : Int32) + nI rr = nI (16 + rr) from by rw [show (16 : Int32) = nI 16 from rfl, nI_add], ybor (by omega)]
  rw [if_neg c0, yTh_0 rfl] at uB
  refine N_tok (d := d + 171) (N_td h (yTd_l q4' hr3)) (fun j2 h2 => ?_)
  change yML b n ia (yDm N L T) (yit b n 2 i) N L T (t ||| 2 ^ (3 + rr)) P l ln j2 at h2
  have h3 := N_w (g := 29) (k := rr) (v := l.length) h2 (Or.inr (Or.inr (Or.inr (Or.inr (Or.inr ⟨by decide, by decide, hr3⟩))))) (show 141 = ymc1 29 rr from rfl) (show 3 + rr = ymc2 29 rr from rfl)
  rw [kN, b151_92, S_frs (j := 6) (u := 6) rfl (by decide), kS, b151_105, show (3 : Int32) + nI rr = nI (3 + rr) from by rw [show (3 : Int32) = nI 3 from rfl, nI_add], zg (by omega) (by omega), zcln (by omega), h2.2.2.2.2.2.2.2.2.2.2.1]
  generalize hs1 : zu j2 141 (3 + rr) (nI l.length) = s1 at h3
  have h3' := h3
  obtain ⟨p1, p2, p3, ⟨u1, p4, p4'⟩, p5, p6, p7, p8, p9, p10, p11, p12, p13, p14⟩ := h3'
  have hcs : yRS b n s1 (yit b n 2 i) 0 l.length l s1 := ⟨p1, p2, p3, p6, p7, p11, p13, fun _ _ _ => rfl⟩
  have I2 : yit b n 2 i ≤ n := i2n
  have sup : ∀ k, 129 ≤ 142 ∧ 142 ≤ 144 ∧ yhf 142 ≤ 3 + k := fun k => ⟨by decide, by decide, by show 3 ≤ 3 + k; omega⟩
  refine yRS_go (yfuel n) 1 0 (yit b n 2 i) l.length l (d + 179) s1 _ yX_1 (by show 10 * (n - yit b n 2 i) + 6 ≤ 10 * n + 10; omega) h6 (Nat.le_refl _) (by decide) (by show 20 + (64 - l.length) + 8 * (8 - 0) + 6 ≤ d + 179; omega) hcs (fun r sb q1 q2 => ?_) (fun e sb q1 q2 => ?_)
  · rw [q1] at uB
    have uB : yBlaw b n N L T t P l i = .ok (r.1, N, L, T, t ||| 2 ^ (3 + rr), zu (zu P 29 rr l.length) 30 rr r.2.2.length, r.2.2) := uB
    have A := (yPx_A hb (yfuel n) 1 0 (yit b n 2 i) l.length l yX_1 I2 (by show 10 * (n - yit b n 2 i) + 6 ≤ 10 * n + 10; omega) h6).2 r q1
    have A6 := A.2.2.2.2.2
    obtain ⟨g1, g2, g3, g4, g5, g7, g8, g9⟩ := q2
    have nv : ∀ a q, ¬ (a = 127 ∧ 22 ≤ q) → ¬ (a = 129 ∧ q = 13) → a ≠ 143 → a ≠ 144 → sb a q = s1 a q := fun a q x1 x2 x3 x4 => g9 a q (by
      rintro (z | z | z)
      · exact x1 ⟨z.1, z.2.1⟩
      · exact x2 z
      · rcases z.1 with z | z
        · exact x3 z
        · exact x4 z)
    have h4 : yML b n ia (fun a q => yDm N L T a q ∨ (a = 29 ∧ q = rr)) r.1 N L T (t ||| 2 ^ (3 + rr)) (zu P 29 rr l.length) r.2.2 ln sb := by
      refine ⟨g1, g2, g3, ⟨u1, ?_, p4'⟩, ?_, g4, ?_, ?_, ?_, ?_, g7, fun g k hg => ⟨(p12 g k hg).1, ?_⟩, g8, fun a q hn => ?_⟩
      · rw [nv 127 19 (by omega) (by omega) (by omega) (by omega)]; exact p4
      · rw [nv 127 20 (by omega) (by omega) (by omega) (by omega)]; exact p5
      · rw [g5]; congr 1; omega
      · rw [nv 129 7 (by omega) (by omega) (by omega) (by omega)]; exact p8
      · rw [nv 129 8 (by omega) (by omega) (by omega) (by omega)]; exact p9
      · rw [nv 129 9 (by omega) (by omega) (by omega) (by omega)]; exact p10
      · obtain ⟨o1, o2, o3, o4⟩ := ymc_o (p12 g k hg).1
        rw [nv _ _ (by omega) (fun z => by have := o3 z.1; omega) (by omega) (by omega)]; exact (p12 g k hg).2
      · rw [g9 a q (fun z => hn (yW_Um z))]; exact p14 a q hn
    have h5 := N_w (g := 30) (k := rr) (v := r.2.2.length) h4 (Or.inr (Or.inr (Or.inr (Or.inr (Or.inr ⟨by decide, by decide, hr3⟩))))) (show 142 = ymc1 30 rr from rfl) (show 3 + rr = ymc2 30 rr from rfl)
    rw [kN, b151_110, S_frs (j := 6) (u := 6) rfl (by decide), kS, b151_123, show (3 : Int32) + nI rr = nI (3 + rr) from by rw [show (3 : Int32) = nI 3 from rfl, nI_add], zg (by omega) (by omega), zcln (by omega), h4.2.2.2.2.2.2.2.2.2.2.1]
    exact hO _ uB _ (yML_m h5 (fun g k hg => Or.inl (Or.inl hg)))
  · rw [q1] at uB
    have uB : yBlaw b n N L T t P l i = .error e := uB
    have hj : yMe ia e sb := ⟨q2.1, q2.2.1, q2.2.2.2, fun a q hn => by rw [q2.2.2.1 a q (fun z => hn (yW_Um z))]; exact p14 a q hn⟩
    rw [kN, b151_110, S_frs (j := 6) (u := 6) rfl (by decide), kS, b151_123, show (3 : Int32) + nI rr = nI (3 + rr) from by rw [show (3 : Int32) = nI 3 from rfl, nI_add], zg (by omega) (by omega), zcln (by omega)]
    exact hE _ uB _ (Fe_w hj (sup rr))
end ZP
