/-! the class's lines: leases, letters, settings, laws -/
section ZP
variable {d pl dr n i N L T t ln rp : Nat} {cp cw : Option Nat} {b : Nat → Nat} {ia sa : Nat → Nat → Int32} {la : Nat → Nat → Int64} {K : Option Value → zHP → Prop} {l : List (Nat × Nat)} {P : Nat → Nat → Nat} {D : Nat → Nat → Prop} {e : Nat × Nat}
theorem Ge_rp {k : Nat} {v : Int32} (h : yCe rp ia N e sa) (hrp : zIsP rp) (hk : k ≠ 1) : yCe rp ia N e (zu sa rp k v) := by
  have hr : rp = 6 ∨ rp = 39 := hrp
  exact ⟨by rw [zu_o (by omega)]; exact h.1, by rw [zu_o (by omega)]; exact h.2.1, h.2.2.1, by rw [zu_k (Ne.symm hk)]; exact h.2.2.2.1, yFl_u h.2.2.2.2 (Or.inr (Or.inr (Or.inr ⟨by omega, by omega⟩)))⟩
theorem i2no : ∀ k, k < 6 → (nI k = -2 ↔ k = 9) := by decide +kernel
theorem M_lease (hrp : zIsP rp) (h : yCL b n rp ia (yDm N L T) i N L T t P l ln sa) (w : yW1 N L T t P l) (hO : ∀ st ja, yBlea b n N L T t P l i = .ok st → yCLs b n rp ia st ln ja → K none (ja, la, zRA pl dr cp cw (some rp))) (hE : ∀ e N' ja, yBlea b n N L T t P l i = .error e → N' ≤ 6 → yCe rp ia N' e ja → K none (ja, la, zRA pl dr cp cw (some rp))) : zWM (d + 6) 29 [.ref 1] (sa, la, zRA pl dr cp cw (some rp)) K := by
  have hr : rp = 6 ∨ rp = 39 := hrp
  have hN := w.1
  have hL := w.2.1
  unfold yBlea at hO hE
  rw [e29, b29_0 hrp, h.2.2.2.2.2.2.2.1]
  by_cases c0 : L = 10
  · rw [if_neg (show ¬ nI L < 10 by rw [c0]; decide)]
    refine L_fail h hrp rfl (by decide) (by decide) (fun ja hj => ?_)
    rw [kN, b29_17]
    exact hE _ N _ (by rw [if_pos c0, yTh_n (by decide)]) hN hj
  rw [if_neg c0, yTh_0 rfl] at hO hE
  obtain ⟨z1, z2⟩ := zk_lease (i := L) hrp (by omega)
  have gd : ∀ {k : Nat} {a : Prop}, k < 5 → ((zkd (rp + (5 + L)) = 100 ∧ vp_in (nI k) (zln (rp + (5 + L)))) ∧ a) = a := fun {k} {a} hk => zdrop ⟨z1, by rw [z2]; exact zvi hk (by decide)⟩
  have rowg : yRow (5 + L) := Or.inr (Or.inl ⟨by omega, by omega⟩)
  rw [if_pos (show nI L < 10 from nI_lt (b := 10) (by omega) (by omega)), zg (by omega) (by omega), zcln (by omega), Nat.add_assoc rp 5 L]
  have f89 : ∀ e (ja : Nat → Nat → Int32) (x : Int32), (∀ ja, yCe rp ia N e ja → K none (ja, la, zRA pl dr cp cw (some rp))) → yCe rp ia N e ja → zWP (d + 6) 29 89 [some (.ref 1), some (.ref (rp + (5 + L)))] [.int x, .int 4, .ref (rp + (5 + L))] (ja, la, zRA pl dr cp cw (some rp)) K := by
    intro e ja x hx hj
    rw [b29_89 hrp, show (4 : Int32) = nI 4 from rfl, gd (by decide), zcln (by decide)]
    exact hx _ (Ge_rp (Ge_w hj hrp (by omega) (by omega)) hrp (by decide))
  have f79 : ∀ e (ja : Nat → Nat → Int32) (x : Int32), (∀ ja, yCe rp ia N e ja → K none (ja, la, zRA pl dr cp cw (some rp))) → yCe rp ia N e ja → zWP (d + 6) 29 79 [some (.ref 1), some (.ref (rp + (5 + L)))] [.int x, .int 3, .ref (rp + (5 + L))] (ja, la, zRA pl dr cp cw (some rp)) K := by
    intro e ja x hx hj
    have hj := Ge_w (c := rp + (5 + L)) (k := 3) (v := x) hj hrp (by omega) (by omega)
    rw [b29_79, show (3 : Int32) = nI 3 from rfl, gd (by decide), zcln (by decide)]
    exact Ge_num (yCe_n hj) (fun y => by rw [kS]; exact f89 e _ _ hx hj)
  have f69 : ∀ e (ja : Nat → Nat → Int32) (x : Int32), (∀ ja, yCe rp ia N e ja → K none (ja, la, zRA pl dr cp cw (some rp))) → yCe rp ia N e ja → zWP (d + 6) 29 69 [some (.ref 1), some (.ref (rp + (5 + L)))] [.int x, .int 2, .ref (rp + (5 + L))] (ja, la, zRA pl dr cp cw (some rp)) K := by
    intro e ja x hx hj
    have hj := Ge_w (c := rp + (5 + L)) (k := 2) (v := x) hj hrp (by omega) (by omega)
    rw [b29_69, show (2 : Int32) = nI 2 from rfl, gd (by decide), zcln (by decide)]
    exact Ge_num (yCe_n hj) (fun y => by rw [kS]; exact f79 e _ _ hx hj)
  have f59 : ∀ e (ja : Nat → Nat → Int32) (x : Int32), (∀ ja, yCe rp ia N e ja → K none (ja, la, zRA pl dr cp cw (some rp))) → yCe rp ia N e ja → zWP (d + 6) 29 59 [some (.ref 1), some (.ref (rp + (5 + L)))] [.int x, .int 1, .ref (rp + (5 + L))] (ja, la, zRA pl dr cp cw (some rp)) K := by
    intro e ja x hx hj
    have hj := Ge_w (c := rp + (5 + L)) (k := 1) (v := x) hj hrp (by omega) (by omega)
    rw [b29_59, show (1 : Int32) = nI 1 from rfl, gd (by decide), zcln (by decide)]
    exact Ge_num (yCe_n hj) (fun y => by rw [kS]; exact f69 e _ _ hx hj)
  refine L_adv hrp h (fun j1 h1 => ?_)
  rw [kN, b29_41]
  refine L_pers (ow := 9) h1 hrp (yNm_D w (fun k hk => yDm_1 hk)) i2no (fun c1 j2 h2 => ?_) (fun c1 x ja hj => ?_)
  case refine_2 =>
    have hj2 := Ge_w (c := rp + (5 + L)) (k := 0) (v := x) hj hrp (by omega) (by omega)
    rw [kS, b29_49, show (0 : Int32) = nI 0 from rfl, gd (by decide), gd (by decide), zcln (by decide)]
    exact Ge_pers hj2 hrp hN (fun y => by rw [kS]; exact f59 _ _ _ (fun jb hb => hE _ N jb (yTh_n c1) hN hb) hj2)
  rw [yTh_0 (show ycO b n P N 9 (yit b n 1 i) = 0 from c1)] at hO hE
  have y1 : yfi P (zTv b n (yit b n 1 i)) N 0 < 6 := by
    have hb := yfi_b (P := P) (v := zTv b n (yit b n 1 i)) N 0 (by omega)
    have u : ycO b n P N 9 (yit b n 1 i) = if zkN b n (yit b n 1 i) = 3 then (if yfi P (zTv b n (yit b n 1 i)) N 0 = 6 then 4 else if yfi P (zTv b n (yit b n 1 i)) N 0 = 9 then 5 else 0) else 1 := rfl
    have c1 : ycO b n P N 9 (yit b n 1 i) = 0 := c1
    rw [u] at c1
    by_cases q : yfi P (zTv b n (yit b n 1 i)) N 0 = 6
    · rw [if_pos q] at c1; split at c1 <;> omega
    · omega
  rw [kS, b29_49, show (0 : Int32) = nI 0 from rfl, gd (by decide), gd (by decide), zcln (by decide), zu_eq]
  have h2 := L_w (g := 5 + L) (k := 0) (v := yfi P (zTv b n (yit b n 1 i)) N 0) h2 hrp rowg
  have h21 : ∀ k, k < N → (zu P (5 + L) 0 (yfi P (zTv b n (yit b n 1 i)) N 0)) 1 k = P 1 k := fun k _ => by rw [zu_o (by omega)]
  have yf : ∀ v f k, yfi (zu P (5 + L) 0 (yfi P (zTv b n (yit b n 1 i)) N 0)) v f k = yfi P v f k := by
    intro v f
    induction f with
    | zero => intro k; rfl
    | succ f ih => intro k; unfold yfi; rw [zu_o (by omega), ih]
  have co : ∀ ow j, ycO b n (zu P (5 + L) 0 (yfi P (zTv b n (yit b n 1 i)) N 0)) N ow j = ycO b n P N ow j := fun ow j => by unfold ycO; rw [yf]
  refine L_pers (ow := yfi P (zTv b n (yit b n 1 i)) N 0) h2 hrp ⟨hN, fun k hk => ⟨Or.inl (yDm_1 hk), by rw [h21 k hk]; exact w.2.2.2.2.2 k hk⟩⟩ (fun k hk => nI_eq (by omega) (show yfi P (zTv b n (yit b n 1 i)) N 0 < 2 ^ 31 by omega)) (fun c2 j3 h3 => ?_) (fun c2 x ja hj => ?_)
  case refine_2 =>
    rw [co] at c2 hj
    rw [kS]
    exact f59 _ _ _ (fun jb hb => hE _ N jb (yTh_n c2) hN hb) hj
  rw [co] at c2
  rw [yTh_0 (show ycO b n P N (yfi P (zTv b n (yit b n 1 i)) N 0) (yit b n 2 i) = 0 from c2)] at hO hE
  rw [kS, yf, b29_59, show (1 : Int32) = nI 1 from rfl, gd (by decide), zcln (by decide)]
  have h3 := L_w (g := 5 + L) (k := 1) (v := yfi P (zTv b n (yit b n 2 i)) N 0) h3 hrp rowg
  refine L_num (lo := 0) (hi := 99) h3 hrp rfl rfl (by decide) (by decide) (fun c3 j4 h4 => ?_) (fun c3 x ja hj => ?_)
  case refine_2 =>
    rw [kS]
    exact f69 _ _ _ (fun jb hb => hE _ N jb (yTh_n c3) hN hb) hj
  rw [yTh_0 (show ycN b n 0 99 (yit b n 3 i) = 0 from c3)] at hO hE
  rw [kS, b29_69, show (2 : Int32) = nI 2 from rfl, gd (by decide), zcln (by decide)]
  have h4 := L_w (g := 5 + L) (k := 2) (v := zTv b n (yit b n 3 i)) h4 hrp rowg
  refine L_num (lo := 1) (hi := 99) h4 hrp rfl rfl (by decide) (by decide) (fun c4 j5 h5 => ?_) (fun c4 x ja hj => ?_)
  case refine_2 =>
    rw [kS]
    exact f79 _ _ _ (fun jb hb => hE _ N jb (yTh_n c4) hN hb) hj
  rw [yTh_0 (show ycN b n 1 99 (yit b n 4 i) = 0 from c4)] at hO hE
  rw [kS, b29_79, show (3 : Int32) = nI 3 from rfl, gd (by decide), zcln (by decide)]
  have h5 := L_w (g := 5 + L) (k := 3) (v := zTv b n (yit b n 4 i)) h5 hrp rowg
  refine L_num (lo := 0) (hi := 99) h5 hrp rfl rfl (by decide) (by decide) (fun c5 j6 h6 => ?_) (fun c5 x ja hj => ?_)
  case refine_2 =>
    rw [kS]
    exact f89 _ _ _ (fun jb hb => hE _ N jb (yTh_n c5) hN hb) hj
  rw [yTh_0 (show ycN b n 0 99 (yit b n 5 i) = 0 from c5)] at hO
  rw [kS, b29_89 hrp, show (4 : Int32) = nI 4 from rfl, gd (by decide), zcln (by decide)]
  have h6 := L_w (g := 5 + L) (k := 4) (v := zTv b n (yit b n 5 i)) h6 hrp rowg
  rw [show zTv b n (zTn b n (zTn b n (zTn b n (zTn b n (zTn b n i))))) = zTv b n (yit b n 5 i) from rfl, h6.2.2.2.2.2.2.2.1, ns]
  have h7 := L_rp (k := 2) (v := L + 1) h6 hrp (by decide)
  refine hO _ _ rfl (yCL_m h7 (fun g k hg => ?_))
  rcases hg with hg | hg | hg | ⟨g1, g2, g3⟩ | hg | hg
  · exact Or.inl (Or.inl (Or.inl (Or.inl (Or.inl (Or.inl hg)))))
  · exact Or.inl (Or.inl (Or.inl (Or.inl (Or.inl (Or.inr (Or.inl hg))))))
  · exact Or.inl (Or.inl (Or.inl (Or.inl (Or.inl (Or.inr (Or.inr (Or.inl hg)))))))
  · have g2 : g < 5 + (L + 1) := g2
    by_cases q : g = 5 + L
    · have hk : k = 0 ∨ k = 1 ∨ k = 2 ∨ k = 3 ∨ k = 4 := by omega
      rcases hk with hk | hk | hk | hk | hk
      · exact Or.inl (Or.inl (Or.inl (Or.inl (Or.inr ⟨q, hk⟩))))
      · exact Or.inl (Or.inl (Or.inl (Or.inr ⟨q, hk⟩)))
      · exact Or.inl (Or.inl (Or.inr ⟨q, hk⟩))
      · exact Or.inl (Or.inr ⟨q, hk⟩)
      · exact Or.inr ⟨q, hk⟩
    · exact Or.inl (Or.inl (Or.inl (Or.inl (Or.inl (Or.inr (Or.inr (Or.inr (Or.inl ⟨g1, by omega, g3⟩))))))))
  · exact Or.inl (Or.inl (Or.inl (Or.inl (Or.inl (Or.inr (Or.inr (Or.inr (Or.inr (Or.inl hg)))))))))
  · exact Or.inl (Or.inl (Or.inl (Or.inl (Or.inl (Or.inr (Or.inr (Or.inr (Or.inr (Or.inr hg)))))))))
theorem M_letter (hrp : zIsP rp) (h : yCL b n rp ia (yDm N L T) i N L T t P l ln sa) (w : yW1 N L T t P l) (hO : ∀ st ja, yBlet b n N L T t P l i = .ok st → yCLs b n rp ia st ln ja → K none (ja, la, zRA pl dr cp cw (some rp))) (hE : ∀ e N' ja, yBlet b n N L T t P l i = .error e → N' ≤ 6 → yCe rp ia N' e ja → K none (ja, la, zRA pl dr cp cw (some rp))) : zWM (d + 6) 30 [.ref 1] (sa, la, zRA pl dr cp cw (some rp)) K := by
  have hr : rp = 6 ∨ rp = 39 := hrp
  have hN := w.1
  have hT := w.2.2.1
  unfold yBlet at hO hE
  rw [e30, b30_0 hrp, h.2.2.2.2.2.2.2.2.1]
  by_cases c0 : T = 12
  · rw [if_neg (show ¬ nI T < 12 by rw [c0]; decide)]
    refine L_fail h hrp rfl (by decide) (by decide) (fun ja hj => ?_)
    rw [kN, b30_17]
    exact hE _ N _ (by rw [if_pos c0, yTh_n (by decide)]) hN hj
  rw [if_neg c0, yTh_0 rfl] at hO hE
  obtain ⟨z1, z2⟩ := zk_letter (i := T) hrp (by omega)
  have gd : ∀ {k : Nat} {a : Prop}, k < 3 → ((zkd (rp + (16 + T)) = 100 ∧ vp_in (nI k) (zln (rp + (16 + T)))) ∧ a) = a := fun {k} {a} hk => zdrop ⟨z1, by rw [z2]; exact zvi hk (by decide)⟩
  have rowg : yRow (16 + T) := Or.inr (Or.inr ⟨by omega, by omega⟩)
  rw [if_pos (show nI T < 12 from nI_lt (b := 12) (by omega) (by omega)), zg (by omega) (by omega), zcln (by omega), Nat.add_assoc rp 16 T]
  have f68 : ∀ e (ja : Nat → Nat → Int32) (x : Int32), (∀ ja, yCe rp ia N e ja → K none (ja, la, zRA pl dr cp cw (some rp))) → yCe rp ia N e ja → zWP (d + 6) 30 68 [some (.ref 1), some (.ref (rp + (16 + T)))] [.int x, .int 2, .ref (rp + (16 + T))] (ja, la, zRA pl dr cp cw (some rp)) K := by
    intro e ja x hx hj
    rw [b30_68 hrp, show (2 : Int32) = nI 2 from rfl, gd (by decide), zcln (by decide)]
    exact hx _ (Ge_rp (Ge_w hj hrp (by omega) (by omega)) hrp (by decide))
  have f58 : ∀ e (ja : Nat → Nat → Int32) (x : Int32), (∀ ja, yCe rp ia N e ja → K none (ja, la, zRA pl dr cp cw (some rp))) → yCe rp ia N e ja → zWP (d + 6) 30 58 [some (.ref 1), some (.ref (rp + (16 + T)))] [.int x, .int 1, .ref (rp + (16 + T))] (ja, la, zRA pl dr cp cw (some rp)) K := by
    intro e ja x hx hj
    have hj := Ge_w (c := rp + (16 + T)) (k := 1) (v := x) hj hrp (by omega) (by omega)
    rw [b30_58, show (1 : Int32) = nI 1 from rfl, gd (by decide), zcln (by decide)]
    exact Ge_num (yCe_n hj) (fun y => by rw [kS]; exact f68 e _ _ hx hj)
  refine L_adv hrp h (fun j1 h1 => ?_)
  rw [kN, b30_41]
  refine L_pers (ow := 9) h1 hrp (yNm_D w (fun k hk => yDm_1 hk)) i2no (fun c1 j2 h2 => ?_) (fun c1 x ja hj => ?_)
  case refine_2 =>
    have hj2 := Ge_w (c := rp + (16 + T)) (k := 0) (v := x) hj hrp (by omega) (by omega)
    rw [kS, b30_49, show (0 : Int32) = nI 0 from rfl, gd (by decide), zcln (by decide)]
    exact Ge_pers hj2 hrp hN (fun y => by rw [kS]; exact f58 _ _ _ (fun jb hb => hE _ N jb (yTh_n c1) hN hb) hj2)
  rw [yTh_0 (show ycO b n P N 9 (yit b n 1 i) = 0 from c1)] at hO hE
  rw [kS, b30_49, show (0 : Int32) = nI 0 from rfl, gd (by decide), zcln (by decide)]
  have h2 := L_w (g := 16 + T) (k := 0) (v := yfi P (zTv b n (yit b n 1 i)) N 0) h2 hrp rowg
  have h21 : ∀ k, k < N → (zu P (16 + T) 0 (yfi P (zTv b n (yit b n 1 i)) N 0)) 1 k = P 1 k := fun k _ => by rw [zu_o (by omega)]
  have yf : ∀ v f k, yfi (zu P (16 + T) 0 (yfi P (zTv b n (yit b n 1 i)) N 0)) v f k = yfi P v f k := by
    intro v f
    induction f with
    | zero => intro k; rfl
    | succ f ih => intro k; unfold yfi; rw [zu_o (by omega), ih]
  have co : ∀ ow j, ycO b n (zu P (16 + T) 0 (yfi P (zTv b n (yit b n 1 i)) N 0)) N ow j = ycO b n P N ow j := fun ow j => by unfold ycO; rw [yf]
  refine L_pers (ow := 9) h2 hrp ⟨hN, fun k hk => ⟨Or.inl (yDm_1 hk), by rw [h21 k hk]; exact w.2.2.2.2.2 k hk⟩⟩ i2no (fun c2 j3 h3 => ?_) (fun c2 x ja hj => ?_)
  case refine_2 =>
    rw [co] at c2 hj
    rw [kS]
    exact f58 _ _ _ (fun jb hb => hE _ N jb (yTh_n c2) hN hb) hj
  rw [co] at c2
  rw [yTh_0 (show ycO b n P N 9 (yit b n 2 i) = 0 from c2)] at hO hE
  rw [kS, yf, b30_58, show (1 : Int32) = nI 1 from rfl, gd (by decide), zcln (by decide)]
  have h3 := L_w (g := 16 + T) (k := 1) (v := yfi P (zTv b n (yit b n 2 i)) N 0) h3 hrp rowg
  refine L_num (lo := 0) (hi := 99) h3 hrp rfl rfl (by decide) (by decide) (fun c3 j4 h4 => ?_) (fun c3 x ja hj => ?_)
  case refine_2 =>
    rw [kS]
    exact f68 _ _ _ (fun jb hb => hE _ N jb (yTh_n c3) hN hb) hj
  rw [yTh_0 (show ycN b n 0 99 (yit b n 3 i) = 0 from c3)] at hO
  rw [kS, b30_68 hrp, show (2 : Int32) = nI 2 from rfl, gd (by decide), zcln (by decide)]
  have h4 := L_w (g := 16 + T) (k := 2) (v := zTv b n (yit b n 3 i)) h4 hrp rowg
  rw [show zTv b n (zTn b n (zTn b n (zTn b n i))) = zTv b n (yit b n 3 i) from rfl, h4.2.2.2.2.2.2.2.2.1, ns]
  have h7 := L_rp (k := 3) (v := T + 1) h4 hrp (by decide)
  refine hO _ _ rfl (yCL_m h7 (fun g k hg => ?_))
  rcases hg with hg | hg | hg | hg | ⟨g1, g2, g3⟩ | hg
  · exact Or.inl (Or.inl (Or.inl (Or.inl hg)))
  · exact Or.inl (Or.inl (Or.inl (Or.inr (Or.inl hg))))
  · exact Or.inl (Or.inl (Or.inl (Or.inr (Or.inr (Or.inl hg)))))
  · exact Or.inl (Or.inl (Or.inl (Or.inr (Or.inr (Or.inr (Or.inl hg))))))
  · have g2 : g < 16 + (T + 1) := g2
    by_cases q : g = 16 + T
    · have hk : k = 0 ∨ k = 1 ∨ k = 2 := by omega
      rcases hk with hk | hk | hk
      · exact Or.inl (Or.inl (Or.inr ⟨q, hk⟩))
      · exact Or.inl (Or.inr ⟨q, hk⟩)
      · exact Or.inr ⟨q, hk⟩
    · exact Or.inl (Or.inl (Or.inl (Or.inr (Or.inr (Or.inr (Or.inr (Or.inl ⟨g1, by omega, g3⟩)))))))
  · exact Or.inl (Or.inl (Or.inl (Or.inr (Or.inr (Or.inr (Or.inr (Or.inr hg)))))))
theorem M_set (hrp : zIsP rp) (h : yCL b n rp ia (yDm N L T) i N L T t P l ln sa) (w : yW1 N L T t P l) (hk : 23 ≤ zkN b n i ∧ zkN b n i ≤ 25) (hO : ∀ st ja, yBset b n N L T t P l i = .ok st → yCLs b n rp ia st ln ja → K none (ja, la, zRA pl dr cp cw (some rp))) (hE : ∀ e N' ja, yBset b n N L T t P l i = .error e → N' ≤ 6 → yCe rp ia N' e ja → K none (ja, la, zRA pl dr cp cw (some rp))) : zWM (d + 6) 31 [.ref 1] (sa, la, zRA pl dr cp cw (some rp)) K := by
  have hr : rp = 6 ∨ rp = 39 := hrp
  have hN := w.1
  unfold yBset at hO hE
  have e23 : nI (zkN b n i) - 23 = nI (zkN b n i - 23) := by rw [show (23 : Int32) = nI 23 from rfl, pk_sub (by omega)]
  rw [e31, b31_0, h.1.2.2.1, e23, if_neg (nI_pos (by omega)), if_pos (show nI (zkN b n i - 23) < 3 from nI_lt (b := 3) (by omega) (by omega))]
  have f56 : ∀ e (ja : Nat → Nat → Int32) (x : Int32), (∀ ja, yCe rp ia N e ja → K none (ja, la, zRA pl dr cp cw (some rp))) → yCe rp ia N e ja → zWP (d + 6) 31 56 [some (.ref 1), some (.int (nI (zkN b n i - 23)))] [.int x, .int (nI (zkN b n i - 23)), .ref (rp + 28)] (ja, la, zRA pl dr cp cw (some rp)) K := by
    intro e ja x hx hj
    rw [b31_56 hrp, zg (by omega) (by omega), zcln (by omega)]
    exact hx _ (Ge_w hj hrp (by omega) (by omega))
  refine L_tell (j := zkN b n i - 23) h hrp rfl (by omega) w.2.2.2.1 (fun c0 j1 h1 => ?_) (fun c0 ja hj => ?_)
  case refine_2 =>
    rw [c0] at hE
    have hx : ∀ ja, yCe rp ia N (3, zTp b n i) ja → K none (ja, la, zRA pl dr cp cw (some rp)) := fun jb hb => hE _ N jb (by rw [if_pos rfl, yTh_n (by decide)]) hN hb
    rw [kN, b31_31 hrp]
    split
    · exact Ge_num (yCe_n hj) (fun y => by rw [kS]; exact f56 _ _ _ hx hj)
    · exact Ge_num (yCe_n hj) (fun y => by rw [kS]; exact f56 _ _ _ hx hj)
  rw [if_neg (show ¬ t.testBit (zkN b n i - 23) = true by rw [c0]; decide), yTh_0 rfl] at hO hE
  have go : ∀ hi, hi = (if zkN b n i = 25 then 99999 else 100) → ∀ v : Int32, v = nI hi → zWM (d + 5) 25 [.ref 1, .int 0, .int v] (j1, la, zRA pl dr cp cw (some rp)) (zK (d + 6) 31 56 [some (.ref 1), some (.int (nI (zkN b n i - 23)))] [.int (nI (zkN b n i - 23)), .ref (rp + 28)] K) := by
    intro hi ehi v hv
    rw [← ehi] at hO hE
    refine L_num (lo := 0) (hi := hi) h1 hrp rfl hv (by decide) (by rw [ehi]; split <;> omega) (fun c1 j2 h2 => ?_) (fun c1 x ja hj => ?_)
    case refine_2 =>
      rw [kS]
      exact f56 _ _ _ (fun jb hb => hE _ N jb (yTh_n c1) hN hb) hj
    rw [yTh_0 (show ycN b n 0 hi (yit b n 1 i) = 0 from c1)] at hO
    rw [kS, b31_56 hrp, zg (by omega) (by omega), zcln (by omega)]
    have h2 := L_w (g := 28) (k := zkN b n i - 23) (v := zTv b n (yit b n 1 i)) h2 hrp (Or.inr (Or.inr ⟨by decide, by decide⟩))
    exact hO _ _ rfl (yCL_m h2 (fun g k hg => Or.inl hg))
  rw [kN, b31_31 hrp]
  by_cases c5 : zkN b n i = 25
  · rw [if_neg (show ¬ ¬ nI (zkN b n i - 23) = 2 by rw [c5]; decide)]
    exact go 99999 (by rw [if_pos c5]) _ rfl
  · rw [if_pos (show ¬ nI (zkN b n i - 23) = 2 from fun y => by have := (nI_eq (b := 2) (by omega) (by omega)).mp y; omega)]
    exact go 100 (by rw [if_neg c5]) _ rfl
theorem M_bad (hrp : zIsP rp) (h : yCL b n rp ia (yDm N L T) i N L T t P l ln sa) (hk : ¬ (23 ≤ zkN b n i ∧ zkN b n i ≤ 25)) (hE : ∀ ja, yCe rp ia N (1, zTp b n i) ja → K none (ja, la, zRA pl dr cp cw (some rp))) : zWM (d + 6) 31 [.ref 1] (sa, la, zRA pl dr cp cw (some rp)) K := by
  obtain ⟨k4, _⟩ := yCL_k h
  have fl : zWM (d + 5) 23 [.ref 1, .int 1] (sa, la, zRA pl dr cp cw (some rp)) (zK (d + 6) 31 25 [some (.ref 1), some (.int (nI (zkN b n i) - 23))] [] K) := L_fail h hrp rfl (by decide) (by decide) (fun ja hj => by rw [kN, b31_25]; exact hE ja hj)
  rw [e31, b31_0, h.1.2.2.1]
  by_cases c : zkN b n i < 23
  · have : ∀ k, k < 23 → nI k - 23 < 0 := by decide +kernel
    rw [if_pos (this _ c)]; exact fl
  · have e23 : nI (zkN b n i) - 23 = nI (zkN b n i - 23) := by rw [show (23 : Int32) = nI 23 from rfl, pk_sub (by omega)]
    rw [if_neg (by rw [e23]; exact nI_pos (by omega)), if_neg (show ¬ nI (zkN b n i) - 23 < 3 by rw [e23]; exact nI_nlt (b := 3) (by omega) (by omega))]; exact fl
end ZP
