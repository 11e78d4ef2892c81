/-! the reference's lines one by one -/
def yMLs (b : Nat → Nat) (n : Nat) (ia : Nat → Nat → Int32) (s : yS7) (ln : Nat) (sa : Nat → Nat → Int32) : Prop := yML b n ia (yDm s.2.1 s.2.2.1 s.2.2.2.1) s.1 s.2.1 s.2.2.1 s.2.2.2.1 s.2.2.2.2.1 s.2.2.2.2.2.1 s.2.2.2.2.2.2 ln sa
section ZP
variable {d pl dr n i N L T t ln : Nat} {cp cw rp : Option Nat} {b : Nat → Nat} {ia sa : Nat → Nat → Int32} {la : Nat → Nat → Int64} {K : Option Value → zHP → Prop} {l : List (Nat × Nat)} {P : Nat → Nat → Nat} {D : Nat → Nat → Prop} {e : Nat × Nat}
theorem N_semi {i1 : Int32} {a2 a3 : Option Value} (h : yML b n ia D i N L T t P l ln sa) (h0 : zkN b n i = 4 → ∀ ja, yML b n ia D (zTn b n i) N L T t P l (ln + 1) ja → K none (ja, la, zRA pl dr cp cw rp)) (h1 : ¬ zkN b n i = 4 → ∀ ja, yMe ia (1, zTp b n i) ja → K none (ja, la, zRA pl dr cp cw rp)) : zWM (d + 9) 139 [.ref 127, .int 59] (sa, la, zRA pl dr cp cw rp) (zK (d + 10) 149 348 [some (.ref 127), some (.int i1), a2, a3] [] K) := by
  rw [S_isSg (k := 4) (u := 59) h.1 h.2.1 (by decide) (by decide) rfl, kS, b149_348]
  by_cases c : zkN b n i = 4
  · rw [if_pos c, if_pos (by decide)]
    refine N_tok (d := d + 1) h (fun ja hj => ?_)
    rw [kN, b149_363, hj.2.2.2.2.1, ns]
    obtain ⟨q1, q2, q3, ⟨u, q4, q4'⟩, q5, q6, q7, q8, q9, q10, q11, q12, q13, q14⟩ := hj
    refine h0 c _ ⟨yTo_e q1 (fun k _ _ => zu_k (by omega)) (fun j _ => by rw [zu_o (by decide)]), by rw [zu_k (by decide)]; exact q2, by rw [zu_k (by decide)]; exact q3, ⟨u, by rw [zu_k (by decide)]; exact q4, q4'⟩, zu_eq _ _ _ _, by rw [zu_k (by decide)]; exact q6, by rw [zu_k (by decide)]; exact q7, by rw [zu_o (by decide)]; exact q8, by rw [zu_o (by decide)]; exact q9, by rw [zu_o (by decide)]; exact q10, by rw [zu_o (by decide)]; exact q11, fun a p hp => ⟨(q12 a p hp).1, ?_⟩, fun j hj => by rw [zu_o (by decide), zu_o (by decide)]; exact q13 j hj, yFm_u q14 (Or.inl ⟨rfl, by decide, by decide, by decide, by decide, by decide⟩)⟩
    have := (ymc_o (q12 a p hp).1).1
    rw [zu_o (by omega)]; exact (q12 a p hp).2
  · rw [if_neg c, if_neg (fun y => y rfl)]
    refine N_wr h rfl (by decide) (by decide) (fun ja hj => ?_)
    rw [kN, b149_356]
    exact h1 c _ ⟨by rw [zu_k (by decide)]; exact hj.1, by rw [zu_k (by decide)]; exact hj.2.1, hj.2.2.1, yFm_u hj.2.2.2 (Or.inl ⟨rfl, by decide, by decide, by decide, by decide, by decide⟩)⟩
theorem Fe_rm {i0 : Int32} (hN : N < 6) (hE : ∀ ja, yMe ia e ja → K none (ja, la, zRA pl dr cp cw rp)) : ∀ (q j : Nat) (sa : Nat → Nat → Int32), j + q = 3 → yMe ia e sa → zWP (d + 10) 149 164 [some (.ref 127), some (.int i0), some (.int (nI (6 + N))), some (.int (nI j))] [] (sa, la, zRA pl dr cp cw rp) K := by
  intro q
  induction q with
  | zero =>
    intro j sa hj h
    obtain rfl : j = 3 := by omega
    have h2 := fun x => Fe_w (c := 132) (k := 6 + N) (v := x) h ⟨by decide, by decide, show 6 ≤ 6 + N by omega⟩
    have h3 := fun x y => Fe_w (c := 129) (k := 7) (v := y) (h2 x) ⟨by decide, by decide, show 7 ≤ 7 by omega⟩
    rw [b149_164, if_pos (show (3 : Int32) ≤ nI 3 by decide), Fe_num (yMe_n h), kS, b149_205, zg (by omega) (by omega), zcln (by omega), S_frs (j := 0) (u := 0) rfl (by decide), kS, b149_213, S_rds (j := 0) (u := 0) rfl (by decide), kN, b149_218, if_neg (yMe_n (h3 _ _))]
    exact hE _ (h3 _ _)
  | succ q ih =>
    intro j sa hj h
    rw [b149_164, if_neg (z3le (by omega)), Fe_num (yMe_n h), kS, m3, b149_185, zg (by omega) (by omega), zcln (by omega), ns]
    exact ih (j + 1) _ (by omega) (Fe_w h ⟨by decide, by decide, show 18 ≤ 3 * (6 + N) + j by omega⟩)
theorem R_man (h : yML b n ia (yDm N L T) (yit b n 1 i) N L T t P l ln sa) (w : yW1 N L T t P l) (c0 : ¬ N = 6) (hO : ∀ st, yBman b n N L T t P l i = .ok st → zkN b n st.1 = 4 → ∀ ja, yMLs b n ia (zTn b n st.1, st.2) (ln + 1) ja → K none (ja, la, zRA pl dr cp cw rp)) (hE : ∀ e, yEr b n (yBman b n N L T t P l i) e → ∀ ja, yMe ia e ja → K none (ja, la, zRA pl dr cp cw rp)) : zWP (d + 10) 149 94 [some (.ref 127), some (.int 0), none, none] [] (sa, la, zRA pl dr cp cw rp) K := by
  have hN := w.1
  unfold yBman at hO hE
  rw [if_neg c0, yTh_0 rfl] at hO hE
  rw [b149_94, if_pos rfl, S_frs (j := 0) (u := 0) rfl (by decide), kS, b149_139, S_frs (j := 0) (u := 0) rfl (by decide), kS, b149_158, h.2.2.2.2.2.2.2.1, show (6 : Int32) + nI N = nI (6 + N) from by rw [show (6 : Int32) = nI 6 from rfl, nI_add]]
  refine N_frsh (d := d) h (yNm_D w (fun k hk => yDm_1 hk)) (fun c1 j2 h2 => ?_) (fun c1 x ja hj => ?_)
  case refine_2 =>
    rw [kS, b149_161, zg (by omega) (by omega), zcln (by omega)]
    exact Fe_rm (by omega) (fun jb hb => hE _ (Or.inl (yTh_n c1)) jb hb) 3 0 _ (by omega) (Fe_w hj ⟨by decide, by decide, show 6 ≤ 6 + N by omega⟩)
  rw [yTh_0 c1] at hO hE
  rw [kS, b149_161, zg (by omega) (by omega), zcln (by omega)]
  have h2 := N_w (g := 1) (k := N) (v := zTv b n (yit b n 1 i)) h2 (Or.inl ⟨rfl, by omega⟩) rfl rfl
  rw [b149_164, if_neg (by decide)]
  refine N_num (d := d) (lo := 0) (hi := 99) h2 rfl rfl (by decide) (by decide) (fun c2 j3 h3 => ?_) (fun c2 x ja hj => ?_)
  case refine_2 =>
    rw [kS, show (0 : Int32) = nI 0 from rfl, m3, b149_185, zg (by omega) (by omega), zcln (by omega)]
    exact Fe_rm (by omega) (fun jb hb => hE _ (Or.inl (yTh_n c2)) jb hb) 2 1 _ (by omega) (Fe_w hj ⟨by decide, by decide, show 18 ≤ 3 * (6 + N) + 0 by omega⟩)
  rw [yTh_0 (show ycN b n 0 99 (yit b n 2 i) = 0 from c2)] at hO hE
  rw [kS, show (0 : Int32) = nI 0 from rfl, m3, b149_185, zg (by omega) (by omega), zcln (by omega), ns]
  have h3 := N_w (g := 2) (k := 3 * N) (v := zTv b n (yit b n 2 i)) h3 (Or.inr (Or.inl ⟨rfl, by omega⟩)) (show 131 = ymc1 2 (3 * N) from rfl) (show 3 * (6 + N) + 0 = ymc2 2 (3 * N) by show _ = 18 + 3 * N; omega)
  rw [b149_164, if_neg (z3le (by decide))]
  refine N_num (d := d) (lo := 0) (hi := 99) h3 rfl rfl (by decide) (by decide) (fun c3 j4 h4 => ?_) (fun c3 x ja hj => ?_)
  case refine_2 =>
    rw [kS, m3, b149_185, zg (by omega) (by omega), zcln (by omega), ns]
    exact Fe_rm (by omega) (fun jb hb => hE _ (Or.inl (yTh_n c3)) jb hb) 1 2 _ (by omega) (Fe_w hj ⟨by decide, by decide, show 18 ≤ 3 * (6 + N) + (0 + 1) by omega⟩)
  rw [yTh_0 (show ycN b n 0 99 (yit b n 3 i) = 0 from c3)] at hO hE
  rw [kS, m3, b149_185, zg (by omega) (by omega), zcln (by omega), ns]
  have h4 := N_w (g := 2) (k := 3 * N + 1) (v := zTv b n (yit b n 3 i)) h4 (Or.inr (Or.inl ⟨rfl, by omega⟩)) (show 131 = ymc1 2 (3 * N + 1) from rfl) (show 3 * (6 + N) + (0 + 1) = ymc2 2 (3 * N + 1) by show _ = 18 + (3 * N + 1); omega)
  rw [b149_164, if_neg (z3le (by decide))]
  refine N_num (d := d) (lo := 0) (hi := 99) h4 rfl rfl (by decide) (by decide) (fun c4 j5 h5 => ?_) (fun c4 x ja hj => ?_)
  case refine_2 =>
    rw [kS, m3, b149_185, zg (by omega) (by omega), zcln (by omega), ns]
    exact Fe_rm (by omega) (fun jb hb => hE _ (Or.inl (yTh_n c4)) jb hb) 0 3 _ (by omega) (Fe_w hj ⟨by decide, by decide, show 18 ≤ 3 * (6 + N) + (0 + 1 + 1) by omega⟩)
  rw [yTh_0 (show ycN b n 0 99 (yit b n 4 i) = 0 from c4)] at hO hE
  rw [kS, m3, b149_185, zg (by omega) (by omega), zcln (by omega), ns]
  have h5 := N_w (g := 2) (k := 3 * N + 2) (v := zTv b n (yit b n 4 i)) h5 (Or.inr (Or.inl ⟨rfl, by omega⟩)) (show 131 = ymc1 2 (3 * N + 2) from rfl) (show 3 * (6 + N) + (0 + 1 + 1) = ymc2 2 (3 * N + 2) by show _ = 18 + (3 * N + 2); omega)
  rw [b149_164, if_pos (show (3 : Int32) ≤ nI (0 + 1 + 1 + 1) by decide)]
  refine N_num (d := d) (lo := 0) (hi := 999) h5 rfl rfl (by decide) (by decide) (fun c5 j6 h6 => ?_) (fun c5 x ja hj => ?_)
  case refine_2 =>
    have h2 := fun x => Fe_w (c := 132) (k := 6 + N) (v := x) hj ⟨by decide, by decide, show 6 ≤ 6 + N by omega⟩
    have h3 := fun x y => Fe_w (c := 129) (k := 7) (v := y) (h2 x) ⟨by decide, by decide, show 7 ≤ 7 by omega⟩
    rw [kS, b149_205, zg (by omega) (by omega), zcln (by omega), S_frs (j := 0) (u := 0) rfl (by decide), kS, b149_213, S_rds (j := 0) (u := 0) rfl (by decide), kN, b149_218, if_neg (yMe_n (h3 _ _))]
    exact hE _ (Or.inl (yTh_n c5)) _ (h3 _ _)
  rw [yTh_0 (show ycN b n 0 999 (yit b n 5 i) = 0 from c5)] at hO hE
  rw [kS, b149_205, zg (by omega) (by omega), zcln (by omega), S_frs (j := 0) (u := 0) rfl (by decide), kS, b149_213]
  have h6 := N_w (g := 3) (k := N) (v := zTv b n (yit b n 5 i)) h6 (Or.inr (Or.inr (Or.inl ⟨rfl, by omega⟩))) (show 132 = ymc1 3 N from rfl) (show 6 + N = ymc2 3 N from rfl)
  rw [show zTv b n (zTn b n (zTn b n (zTn b n (zTn b n (yit b n 1 i))))) = zTv b n (yit b n 5 i) from rfl, h6.2.2.2.2.2.2.2.1, ns, S_rds (j := 0) (u := 0) rfl (by decide), kN, b149_218]
  have h7 := N_n (k := 0) (v := N + 1) h6 (by decide)
  rw [if_pos h7.2.1]
  have h8 : yML b n ia (yDm (N + 1) L T) (yit b n 6 i) (N + 1) L T t (zu (zu (zu (zu (zu P 1 N (zTv b n (yit b n 1 i))) 2 (3 * N) (zTv b n (yit b n 2 i))) 2 (3 * N + 1) (zTv b n (yit b n 3 i))) 2 (3 * N + 2) (zTv b n (yit b n 4 i))) 3 N (zTv b n (yit b n 5 i))) l ln _ := yML_m h7 (fun g k hg => by
    rcases hg with ⟨rfl, hk⟩ | ⟨rfl, hk⟩ | ⟨rfl, hk⟩ | hg | hg | hg
    · by_cases q : k = N
      · exact Or.inl (Or.inl (Or.inl (Or.inl (Or.inr ⟨rfl, q⟩))))
      · exact Or.inl (Or.inl (Or.inl (Or.inl (Or.inl (Or.inl ⟨rfl, by omega⟩)))))
    · by_cases q0 : k = 3 * N
      · exact Or.inl (Or.inl (Or.inl (Or.inr ⟨rfl, q0⟩)))
      by_cases q1 : k = 3 * N + 1
      · exact Or.inl (Or.inl (Or.inr ⟨rfl, q1⟩))
      by_cases q2 : k = 3 * N + 2
      · exact Or.inl (Or.inr ⟨rfl, q2⟩)
      exact Or.inl (Or.inl (Or.inl (Or.inl (Or.inl (Or.inr (Or.inl ⟨rfl, by omega⟩))))))
    · by_cases q : k = N
      · exact Or.inr ⟨rfl, q⟩
      · exact Or.inl (Or.inl (Or.inl (Or.inl (Or.inl (Or.inr (Or.inr (Or.inl ⟨rfl, by omega⟩)))))))
    · exact Or.inl (Or.inl (Or.inl (Or.inl (Or.inl (Or.inr (Or.inr (Or.inr (Or.inl hg))))))))
    · exact Or.inl (Or.inl (Or.inl (Or.inl (Or.inl (Or.inr (Or.inr (Or.inr (Or.inr (Or.inl hg)))))))))
    · exact Or.inl (Or.inl (Or.inl (Or.inl (Or.inl (Or.inr (Or.inr (Or.inr (Or.inr (Or.inr hg))))))))))
  refine N_semi h8 (fun k4 ja hj => hO _ rfl k4 ja hj) (fun k4 ja hj => hE _ (Or.inr ⟨_, rfl, k4, rfl⟩) ja hj)
/-! leases -/
theorem R_lea (h : yML b n ia (yDm N L T) (yit b n 1 i) N L T t P l ln sa) (w : yW1 N L T t P l) (c0 : ¬ L = 10) (hO : ∀ st, yBlea b n N L T t P l i = .ok st → ∀ ja, yMLs b n ia st ln ja → K none (ja, la, zRA pl dr cp cw rp)) (hE : ∀ e, yBlea b n N L T t P l i = .error e → ∀ ja, yMe ia e ja → K none (ja, la, zRA pl dr cp cw rp)) : zWM (d + 11) 150 [.ref 127] (sa, la, zRA pl dr cp cw rp) K := by
  have hN := w.1
  have hL := w.2.1
  unfold yBlea at hO hE
  rw [if_neg c0, yTh_0 rfl] at hO hE
  have up : ∀ c, 133 ≤ c → c ≤ 137 → 129 ≤ c ∧ c ≤ 144 ∧ yhf c ≤ 10 + L := by
    intro c g1 g2
    refine ⟨by omega, by omega, ?_⟩
    have : yhf c = 10 := by unfold yhf; rw [if_neg (by omega), if_neg (by omega), if_neg (by omega), if_neg (by omega), if_pos (by omega)]
    rw [this]; omega
  have dk : ∀ k, k < 5 → yDok (5 + L) k := fun k hk => Or.inr (Or.inr (Or.inr (Or.inl ⟨by omega, by omega, hk⟩)))
  have m1 : ∀ k, k < 5 → 133 + k = ymc1 (5 + L) k := fun k hk => by unfold ymc1; rw [if_neg (by omega), if_neg (by omega), if_neg (by omega), if_pos (by omega)]
  have m2 : ∀ k, k < 5 → 10 + L = ymc2 (5 + L) k := fun k hk => by unfold ymc2; rw [if_neg (by omega), if_neg (by omega), if_neg (by omega), if_pos (by omega)]; omega
  have f98 : ∀ e (ja : Nat → Nat → Int32) (x : Int32), (∀ ja, yMe ia e ja → K none (ja, la, zRA pl dr cp cw rp)) → yMe ia e ja → zWP (d + 11) 150 98 [some (.ref 127), some (.int (nI (10 + L)))] [.int x, .int (nI (10 + L)), .ref 137] (ja, la, zRA pl dr cp cw rp) K := by
    intro e ja x hx hj
    rw [b150_98, zg (by omega) (by omega), zcln (by omega), S_frs (j := 1) (u := 1) rfl (by decide), kS, b150_106, S_rds (j := 1) (u := 1) rfl (by decide), kN, b150_111]
    exact hx _ (Fe_w (Fe_w hj (up 137 (by decide) (by decide))) ⟨by decide, by decide, by decide⟩)
  have f85 : ∀ e (ja : Nat → Nat → Int32) (x : Int32), (∀ ja, yMe ia e ja → K none (ja, la, zRA pl dr cp cw rp)) → yMe ia e ja → zWP (d + 11) 150 85 [some (.ref 127), some (.int (nI (10 + L)))] [.int x, .int (nI (10 + L)), .ref 136] (ja, la, zRA pl dr cp cw rp) K := by
    intro e ja x hx hj
    have hj := Fe_w (c := 136) (k := 10 + L) (v := x) hj (up 136 (by decide) (by decide))
    rw [b150_85, zg (by omega) (by omega), zcln (by omega), Fe_num (yMe_n hj), kS]
    exact f98 e _ _ hx hj
  have f72 : ∀ e (ja : Nat → Nat → Int32) (x : Int32), (∀ ja, yMe ia e ja → K none (ja, la, zRA pl dr cp cw rp)) → yMe ia e ja → zWP (d + 11) 150 72 [some (.ref 127), some (.int (nI (10 + L)))] [.int x, .int (nI (10 + L)), .ref 135] (ja, la, zRA pl dr cp cw rp) K := by
    intro e ja x hx hj
    have hj := Fe_w (c := 135) (k := 10 + L) (v := x) hj (up 135 (by decide) (by decide))
    rw [b150_72, zg (by omega) (by omega), zcln (by omega), Fe_num (yMe_n hj), kS]
    exact f85 e _ _ hx hj
  have f60 : ∀ e (ja : Nat → Nat → Int32), (∀ ja, yMe ia e ja → K none (ja, la, zRA pl dr cp cw rp)) → yMe ia e ja → zWP (d + 11) 150 60 [some (.ref 127), some (.int (nI (10 + L)))] [] (ja, la, zRA pl dr cp cw rp) K := by
    intro e ja hx hj
    rw [b150_60, Fe_num (yMe_n hj), kS]
    exact f72 e _ _ hx hj
  have f28 : ∀ e (ja : Nat → Nat → Int32) (x : Int32), (∀ ja, yMe ia e ja → K none (ja, la, zRA pl dr cp cw rp)) → yMe ia e ja → zWP (d + 11) 150 28 [some (.ref 127), some (.int (nI (10 + L)))] [.int x, .int (nI (10 + L)), .ref 134] (ja, la, zRA pl dr cp cw rp) K := by
    intro e ja x hx hj
    have hj := Fe_w (c := 134) (k := 10 + L) (v := x) hj (up 134 (by decide) (by decide))
    rw [b150_28, zg (by omega) (by omega), zcln (by omega), if_pos (yMe_n hj), F_go (yMe_n hj), kN]
    exact f60 e _ hx hj
  rw [e150, b150_0, S_frs (j := 1) (u := 1) rfl (by decide), kS, b150_7, h.2.2.2.2.2.2.2.2.1, show (10 : Int32) + nI L = nI (10 + L) from by rw [show (10 : Int32) = nI 10 from rfl, nI_add]]
  refine N_ahd h (yNm_D w (fun k hk => yDm_1 hk)) (fun c1 j2 h2 => ?_) (fun c1 x ja hj => ?_)
  case refine_2 =>
    have hj := Fe_w (c := 133) (k := 10 + L) (v := x) hj (up 133 (by decide) (by decide))
    rw [kS, b150_18, zg (by omega) (by omega), zcln (by omega), Fe_man (yMe_n hj), kS]
    exact f28 _ _ _ (fun jb hb => hE _ (yTh_n c1) jb hb) hj
  rw [yTh_0 c1] at hO hE
  have y1 := ycO_i hN c1
  rw [kS, b150_18, zg (by omega) (by omega), zcln (by omega)]
  have h2 := N_w (g := 5 + L) (k := 0) (v := yfi P (zTv b n (yit b n 1 i)) N 0) h2 (dk 0 (by decide)) (m1 0 (by decide)) (m2 0 (by decide))
  have h21 : ∀ k, k < N → (zu P (5 + L) 0 (yfi P (zTv b n (yit b n 1 i)) N 0)) 1 k = P 1 k := fun k _ => by rw [zu_o (by omega)]
  have yf : ∀ v f k, yfi (zu P (5 + L) 0 (yfi P (zTv b n (yit b n 1 i)) N 0)) v f k = yfi P v f k := by
    intro v f
    induction f with
    | zero => intro k; rfl
    | succ f ih => intro k; unfold yfi; rw [zu_o (by omega), ih]
  have co : ∀ ow j, ycO b n (zu P (5 + L) 0 (yfi P (zTv b n (yit b n 1 i)) N 0)) N ow j = ycO b n P N ow j := fun ow j => by unfold ycO; rw [yf]
  have uc : ∀ ow, ycO b n P N ow (yit b n 2 i) = if zkN b n (yit b n 2 i) = 3 then (if yfi P (zTv b n (yit b n 2 i)) N 0 = 6 then 4 else if yfi P (zTv b n (yit b n 2 i)) N 0 = ow then 5 else 0) else 1 := fun _ => rfl
  refine N_man (d := d + 8) h2 ⟨hN, fun k hk => ⟨Or.inl (yDm_1 hk), by rw [h21 k hk]; exact w.2.2.2.2.2 k hk⟩⟩ (fun c2 => ?_) (fun c2 x ja hj => ?_)
  case refine_2 =>
    rw [co] at c2 hj
    change ¬ ycO b n P N 9 (yit b n 2 i) = 0 at c2
    change yMe ia (ycO b n P N 9 (yit b n 2 i), zTp b n (yit b n 2 i)) ja at hj
    have ee : ycO b n P N (yfi P (zTv b n (yit b n 1 i)) N 0) (yit b n 2 i) = ycO b n P N 9 (yit b n 2 i) := by
      have hb := yfi_b (P := P) (v := zTv b n (yit b n 2 i)) N 0 (by omega)
      rw [uc, uc]
      rw [uc] at c2
      by_cases q : zkN b n (yit b n 2 i) = 3
      · rw [if_pos q] at c2 ⊢
        by_cases q2 : yfi P (zTv b n (yit b n 2 i)) N 0 = 6
        · rw [if_pos q2, if_pos q, if_pos q2]
        · rw [if_neg q2, if_neg (by omega)] at c2; exact absurd rfl c2
      · rw [if_neg q, if_neg q]
    rw [kS]
    exact f28 _ _ _ (fun jb hb => hE _ (by rw [yTh_n (by rw [ee]; exact c2), ee]) jb hb) hj
  rw [co] at c2
  change ycO b n P N 9 (yit b n 2 i) = 0 at c2
  have y2 := ycO_i hN c2
  rw [kS, yf, b150_28, zg (by omega) (by omega), zcln (by omega)]
  have h3 := N_w (g := 5 + L) (k := 1) (v := yfi P (zTv b n (yit b n 2 i)) N 0) h2 (dk 1 (by decide)) (m1 1 (by decide)) (m2 1 (by decide))
  rw [show zTv b n (zTn b n (yit b n 1 i)) = zTv b n (yit b n 2 i) from rfl, if_neg (fun y => y h3.2.1), zg (by omega) (by omega), zu_eq, zu_o (show (133 : Nat) ≠ 134 by decide)]
  have e133 : zu j2 (133 + 0) (10 + L) (nI (yfi P (zTv b n (yit b n 1 i)) N 0)) 133 (10 + L) = nI (yfi P (zTv b n (yit b n 1 i)) N 0) := zu_eq _ _ _ _
  have e133 : zu j2 133 (10 + L) (nI (yfi P (zTv b n (yit b n 1 i)) N 0)) 133 (10 + L) = nI (yfi P (zTv b n (yit b n 1 i)) N 0) := zu_eq _ _ _ _
  have nx : ycO b n P N (yfi P (zTv b n (yit b n 1 i)) N 0) (yit b n 2 i) = if yfi P (zTv b n (yit b n 2 i)) N 0 = yfi P (zTv b n (yit b n 1 i)) N 0 then 5 else 0 := by
    rw [uc, if_pos y2.1, if_neg (by omega)]
  have e133' : zu j2 133 (10 + L) (nI (yfi P (zTv b n (zTn b n i)) N 0)) 133 (10 + L) = nI (yfi P (zTv b n (yit b n 1 i)) N 0) := zu_eq _ _ _ _
  by_cases c3 : yfi P (zTv b n (yit b n 2 i)) N 0 = yfi P (zTv b n (yit b n 1 i)) N 0
  · rw [nx, if_pos c3, yTh_n (by decide)] at hE
    rw [if_neg (fun y => y (by rw [c3]; exact e133'.symm))]
    refine N_wr h3 rfl (by decide) (by decide) (fun ja hj => ?_)
    rw [kN, b150_56, F_go (yMe_n hj), kN]
    exact f60 _ _ (fun jb hb => hE _ rfl jb hb) hj
  rw [nx, if_neg c3, yTh_0 rfl] at hO hE
  rw [if_pos (fun y => c3 ((nI_eq (by omega) (by omega)).mp (y.trans e133)))]
  refine N_go (d := d + 1) h3 (fun j3 h3 => ?_)
  rw [kN, b150_60]
  refine N_num (d := d + 1) (lo := 0) (hi := 99) h3 rfl rfl (by decide) (by decide) (fun c4 j4 h4 => ?_) (fun c4 x ja hj => ?_)
  case refine_2 =>
    rw [kS]
    exact f72 _ _ _ (fun jb hb => hE _ (yTh_n c4) jb hb) hj
  rw [yTh_0 (show ycN b n 0 99 (yit b n 3 i) = 0 from c4)] at hO hE
  rw [kS, b150_72, zg (by omega) (by omega), zcln (by omega)]
  have h4 := N_w (g := 5 + L) (k := 2) (v := zTv b n (yit b n 3 i)) h4 (dk 2 (by decide)) (m1 2 (by decide)) (m2 2 (by decide))
  refine N_num (d := d + 1) (lo := 1) (hi := 99) h4 rfl rfl (by decide) (by decide) (fun c5 j5 h5 => ?_) (fun c5 x ja hj => ?_)
  case refine_2 =>
    rw [kS]
    exact f85 _ _ _ (fun jb hb => hE _ (yTh_n c5) jb hb) hj
  rw [yTh_0 (show ycN b n 1 99 (yit b n 4 i) = 0 from c5)] at hO hE
  rw [kS, b150_85, zg (by omega) (by omega), zcln (by omega)]
  have h5 := N_w (g := 5 + L) (k := 3) (v := zTv b n (yit b n 4 i)) h5 (dk 3 (by decide)) (m1 3 (by decide)) (m2 3 (by decide))
  refine N_num (d := d + 1) (lo := 0) (hi := 99) h5 rfl rfl (by decide) (by decide) (fun c6 j6 h6 => ?_) (fun c6 x ja hj => ?_)
  case refine_2 =>
    rw [kS]
    exact f98 _ _ _ (fun jb hb => hE _ (yTh_n c6) jb hb) hj
  rw [yTh_0 (show ycN b n 0 99 (yit b n 5 i) = 0 from c6)] at hO
  rw [kS, b150_98, zg (by omega) (by omega), zcln (by omega), S_frs (j := 1) (u := 1) rfl (by decide), kS, b150_106]
  have h6 := N_w (g := 5 + L) (k := 4) (v := zTv b n (yit b n 5 i)) h6 (dk 4 (by decide)) (m1 4 (by decide)) (m2 4 (by decide))
  have e9 : zu j6 137 (10 + L) (nI (zTv b n (zTn b n (zTn b n (zTn b n (zTn b n (yit b n 1 i))))))) 129 (7 + 1) = nI L := h6.2.2.2.2.2.2.2.2.1
  rw [e9, ns, S_rds (j := 1) (u := 1) rfl (by decide), kN, b150_111]
  have h7 := N_n (k := 1) (v := L + 1) h6 (by decide)
  refine hO _ rfl _ (yML_m h7 (fun g k hg => ?_))
  rcases hg with hg | hg | hg | ⟨g1, g2, g3⟩ | hg | hg
  · exact Or.inl (Or.inl (Or.inl (Or.inl (Or.inl (Or.inl hg)))))
  · exact Or.inl (Or.inl (Or.inl (Or.inl (Or.inl (Or.inr (Or.inl hg))))))
  · exact Or.inl (Or.inl (Or.inl (Or.inl (Or.inl (Or.inr (Or.inr (Or.inl hg)))))))
  · have g2 : g < 5 + (L + 1) := g2
    by_cases q : g = 5 + L
    · have hk : k = 0 ∨ k = 1 ∨ k = 2 ∨ k = 3 ∨ k = 4 := by omega
      rcases hk with hk | hk | hk | hk | hk
      · exact Or.inl (Or.inl (Or.inl (Or.inl (Or.inr ⟨q, hk⟩))))
      · exact Or.inl (Or.inl (Or.inl (Or.inr ⟨q, hk⟩)))
      · exact Or.inl (Or.inl (Or.inr ⟨q, hk⟩))
      · exact Or.inl (Or.inr ⟨q, hk⟩)
      · exact Or.inr ⟨q, hk⟩
    · exact Or.inl (Or.inl (Or.inl (Or.inl (Or.inl (Or.inr (Or.inr (Or.inr (Or.inl ⟨g1, by omega, g3⟩))))))))
  · exact Or.inl (Or.inl (Or.inl (Or.inl (Or.inl (Or.inr (Or.inr (Or.inr (Or.inr (Or.inl hg)))))))))
  · exact Or.inl (Or.inl (Or.inl (Or.inl (Or.inl (Or.inr (Or.inr (Or.inr (Or.inr (Or.inr hg)))))))))
end ZP
