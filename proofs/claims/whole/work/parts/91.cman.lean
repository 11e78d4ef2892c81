/-! the class's lines one by one -/
def yW1 (N L T t : Nat) (P : Nat → Nat → Nat) (l : List (Nat × Nat)) : Prop := N ≤ 6 ∧ L ≤ 10 ∧ T ≤ 12 ∧ t < 2 ^ 6 ∧ l.length ≤ 64 ∧ ∀ k, k < N → P 1 k < 2 ^ 30
def yCLs (b : Nat → Nat) (n rp : Nat) (ia : Nat → Nat → Int32) (s : yS7) (ln : Nat) (sa : Nat → Nat → Int32) : Prop := yCL b n rp ia (yDm s.2.1 s.2.2.1 s.2.2.2.1) s.1 s.2.1 s.2.2.1 s.2.2.2.1 s.2.2.2.2.1 s.2.2.2.2.2.1 s.2.2.2.2.2.2 ln sa
/-- a line fails with e, at its ';' at the latest -/
def yEr (b : Nat → Nat) (n : Nat) (R : yLR) (e : Nat × Nat) : Prop := R = .error e ∨ ∃ s, R = .ok s ∧ ¬ zkN b n s.1 = 4 ∧ e = (1, zTp b n s.1)
section ZP
variable {d pl dr n i N L T t ln rp : Nat} {cp cw : Option Nat} {b : Nat → Nat} {ia sa : Nat → Nat → Int32} {la : Nat → Nat → Int64} {K : Option Value → zHP → Prop} {l : List (Nat × Nat)} {P : Nat → Nat → Nat} {D : Nat → Nat → Prop} {e : Nat × Nat}
theorem yCL_m {D' : Nat → Nat → Prop} (h : yCL b n rp ia D i N L T t P l ln sa) (hD : ∀ g k, D' g k → D g k) : yCL b n rp ia D' i N L T t P l ln sa := by
  obtain ⟨h1, h2, h3, h4, h5, h6, h7, h8, h9, h10, h11, h12, h13⟩ := h
  exact ⟨h1, h2, h3, h4, h5, h6, h7, h8, h9, h10, fun g k q => h11 g k (hD g k q), h12, h13⟩
theorem L_rp {k v : Nat} (h : yCL b n rp ia D i N L T t P l ln sa) (hrp : zIsP rp) (hk : k < 4) : yCL b n rp ia D i (if k = 1 then v else N) (if k = 2 then v else L) (if k = 3 then v else T) t P l (if k = 0 then v else ln) (zu sa rp k (nI v)) := by
  have hr : rp = 6 ∨ rp = 39 := hrp
  obtain ⟨h1, h2, h3, h4, h5, h6, h7, h8, h9, h10, h11, h12, h13⟩ := h
  have o1 : ∀ a, a ≠ rp → zu sa rp k (nI v) a = sa a := fun a ha => zu_o ha
  refine ⟨yTc_e h1 (fun k _ _ => by rw [o1 2 (by omega)]) (o1 3 (by omega)) (o1 4 (by omega)), by rw [o1 1 (by omega)]; exact h2, by rw [o1 1 (by omega)]; exact h3, by rw [o1 1 (by omega)]; exact h4, by rw [o1 1 (by omega)]; exact h5, ?_, ?_, ?_, ?_, by rw [zu_k (by omega)]; exact h10, fun g k q => ⟨(h11 g k q).1, ?_⟩, fun j hj => by rw [o1 (rp + 31) (by omega), o1 (rp + 32) (by omega)]; exact h12 j hj, yFl_u h13 (Or.inr (Or.inr (Or.inr ⟨by omega, by omega⟩)))⟩
  · rw [zu_at]
    by_cases e : k = 0
    · rw [if_pos ⟨rfl, e.symm⟩, if_pos e]
    · rw [if_neg (fun z => e z.2.symm), if_neg e]; exact h6
  · rw [zu_at]
    by_cases e : k = 1
    · rw [if_pos ⟨rfl, e.symm⟩, if_pos e]
    · rw [if_neg (fun z => e z.2.symm), if_neg e]; exact h7
  · rw [zu_at]
    by_cases e : k = 2
    · rw [if_pos ⟨rfl, e.symm⟩, if_pos e]
    · rw [if_neg (fun z => e z.2.symm), if_neg e]; exact h8
  · rw [zu_at]
    by_cases e : k = 3
    · rw [if_pos ⟨rfl, e.symm⟩, if_pos e]
    · rw [if_neg (fun z => e z.2.symm), if_neg e]; exact h9
  · have hg : (1 ≤ g ∧ g ≤ 3) ∨ (5 ≤ g ∧ g ≤ 14) ∨ (16 ≤ g ∧ g ≤ 30) := (h11 g k q).1
    rw [o1 (rp + g) (by omega)]; exact (h11 g k q).2
theorem yNm_D (w : yW1 N L T t P l) (hD : ∀ k, k < N → D 1 k) : yNm D N P := ⟨w.1, fun k hk => ⟨hD k hk, w.2.2.2.2.2 k hk⟩⟩
theorem yDm_1 {k : Nat} (h : k < N) : yDm N L T 1 k := Or.inl ⟨rfl, h⟩
/-! a man -/
theorem Ge_man (hrp : zIsP rp) (hN : N < 6) (hE : ∀ ja, yCe rp ia (N + 1) e ja → K none (ja, la, zRA pl dr cp cw (some rp))) : ∀ (q j : Nat) (sa : Nat → Nat → Int32), j + q = 3 → yCe rp ia N e sa → zWP (d + 3) 28 50 [some (.ref 1), some (.int (nI N)), some (.int (nI (3 * N + j)))] [] (sa, la, zRA pl dr cp cw (some rp)) K := by
  have hr : rp = 6 ∨ rp = 39 := hrp
  intro q
  induction q with
  | zero =>
    intro j sa hj h
    obtain rfl : j = 3 := by omega
    rw [b28_50 hrp, n3', show (3 : Int32) = nI 3 from rfl, nI_add, if_pos (nI_le1 (Nat.le_refl _) (by omega))]
    refine Ge_num (yCe_n h) (fun x => ?_)
    rw [kS, b28_97 hrp, zg (by omega) (by omega), zcln (by omega), zu_o (show rp ≠ rp + 3 by omega), h.2.2.2.1, ns]
    have h2 := Ge_w (c := rp + 3) (k := N) (v := x) h hrp (by omega) (by omega)
    exact hE _ ⟨by rw [zu_o (by omega)]; exact h2.1, by rw [zu_o (by omega)]; exact h2.2.1, h2.2.2.1, zu_eq _ _ _ _, yFl_u h2.2.2.2.2 (Or.inr (Or.inr (Or.inr ⟨by omega, by omega⟩)))⟩
  | succ q ih =>
    intro j sa hj h
    rw [b28_50 hrp, n3', show (3 : Int32) = nI 3 from rfl, nI_add, if_neg (nI_nle1 (by omega) (by omega))]
    refine Ge_num (yCe_n h) (fun x => ?_)
    rw [kS, b28_74 hrp, zg (by omega) (by omega), zcln (by omega), ns]
    exact ih (j + 1) _ (by omega) (Ge_w h hrp (by omega) (by omega))
theorem M_man (hrp : zIsP rp) (h : yCL b n rp ia (yDm N L T) i N L T t P l ln sa) (w : yW1 N L T t P l) (hO : ∀ st ja, yBman b n N L T t P l i = .ok st → yCLs b n rp ia st ln ja → K none (ja, la, zRA pl dr cp cw (some rp))) (hE : ∀ e N' ja, yBman b n N L T t P l i = .error e → N' ≤ 6 → yCe rp ia N' e ja → K none (ja, la, zRA pl dr cp cw (some rp))) : zWM (d + 6) 28 [.ref 1] (sa, la, zRA pl dr cp cw (some rp)) K := by
  have hr : rp = 6 ∨ rp = 39 := hrp
  have hN := w.1
  unfold yBman at hO hE
  rw [e28, b28_0 hrp, h.2.2.2.2.2.2.1]
  by_cases c0 : N = 6
  · rw [if_neg (show ¬ nI N < 6 by rw [c0]; decide)]
    refine L_fail h hrp rfl (by decide) (by decide) (fun ja hj => ?_)
    rw [kN, b28_17]
    exact hE _ N _ (by rw [if_pos c0, yTh_n (by decide)]) hN hj
  rw [if_neg c0, yTh_0 rfl] at hO hE
  rw [if_pos (show nI N < 6 from nI_lt (b := 6) (by omega) (by omega))]
  refine L_adv hrp h (fun j1 h1 => ?_)
  rw [kN, b28_33 hrp]
  refine L_name h1 hrp (yNm_D w (fun k hk => yDm_1 hk)) (fun c1 j2 h2 => ?_) (fun c1 x ja hj => ?_)
  case refine_2 =>
    rw [kS, b28_45 hrp, zg (by omega) (by omega), zcln (by omega), n3']
    exact Ge_man hrp (by omega) (fun jb hb => hE _ (N + 1) jb (yTh_n c1) (by omega) hb) 3 0 _ (by omega) (Ge_w hj hrp (by omega) (by omega))
  rw [yTh_0 (show ycW b n P N (yit b n 1 i) = 0 from c1)] at hO hE
  rw [kS, b28_45 hrp, zg (by omega) (by omega), zcln (by omega), n3']
  have h2 := L_w (g := 1) (k := N) (v := zTv b n (yit b n 1 i)) h2 hrp (Or.inl ⟨by decide, by decide⟩)
  rw [b28_50 hrp, n3', show (3 : Int32) = nI 3 from rfl, nI_add, if_neg (nI_nle1 (by omega) (by omega))]
  refine L_num (lo := 0) (hi := 99) h2 hrp rfl rfl (by decide) (by decide) (fun c2 j3 h3 => ?_) (fun c2 x ja hj => ?_)
  case refine_2 =>
    rw [kS, b28_74 hrp, zg (by omega) (by omega), zcln (by omega), ns]
    exact Ge_man hrp (by omega) (fun jb hb => hE _ (N + 1) jb (yTh_n c2) (by omega) hb) 2 1 _ (by omega) (Ge_w hj hrp (by omega) (by omega))
  rw [yTh_0 (show ycN b n 0 99 (yit b n 2 i) = 0 from c2)] at hO hE
  rw [kS, b28_74 hrp, zg (by omega) (by omega), zcln (by omega), ns]
  have h3 := L_w (g := 2) (k := 3 * N) (v := zTv b n (yit b n 2 i)) h3 hrp (Or.inl ⟨by decide, by decide⟩)
  rw [b28_50 hrp, n3', show (3 : Int32) = nI 3 from rfl, nI_add, if_neg (nI_nle1 (by omega) (by omega))]
  refine L_num (lo := 0) (hi := 99) h3 hrp rfl rfl (by decide) (by decide) (fun c3 j4 h4 => ?_) (fun c3 x ja hj => ?_)
  case refine_2 =>
    rw [kS, b28_74 hrp, zg (by omega) (by omega), zcln (by omega), ns]
    exact Ge_man hrp (by omega) (fun jb hb => hE _ (N + 1) jb (yTh_n c3) (by omega) hb) 1 2 _ (by omega) (Ge_w hj hrp (by omega) (by omega))
  rw [yTh_0 (show ycN b n 0 99 (yit b n 3 i) = 0 from c3)] at hO hE
  rw [kS, b28_74 hrp, zg (by omega) (by omega), zcln (by omega), ns]
  have h4 := L_w (g := 2) (k := 3 * N + 1) (v := zTv b n (yit b n 3 i)) h4 hrp (Or.inl ⟨by decide, by decide⟩)
  rw [b28_50 hrp, n3', show (3 : Int32) = nI 3 from rfl, nI_add, if_neg (nI_nle1 (by omega) (by omega))]
  refine L_num (lo := 0) (hi := 99) h4 hrp rfl rfl (by decide) (by decide) (fun c4 j5 h5 => ?_) (fun c4 x ja hj => ?_)
  case refine_2 =>
    rw [kS, b28_74 hrp, zg (by omega) (by omega), zcln (by omega), ns]
    exact Ge_man hrp (by omega) (fun jb hb => hE _ (N + 1) jb (yTh_n c4) (by omega) hb) 0 3 _ (by omega) (Ge_w hj hrp (by omega) (by omega))
  rw [yTh_0 (show ycN b n 0 99 (yit b n 4 i) = 0 from c4)] at hO hE
  rw [kS, b28_74 hrp, zg (by omega) (by omega), zcln (by omega), ns]
  have h5 := L_w (g := 2) (k := 3 * N + 2) (v := zTv b n (yit b n 4 i)) h5 hrp (Or.inl ⟨by decide, by decide⟩)
  rw [b28_50 hrp, n3', show (3 : Int32) = nI 3 from rfl, nI_add, if_pos (nI_le1 (by omega) (by omega))]
  refine L_num (lo := 0) (hi := 999) h5 hrp rfl rfl (by decide) (by decide) (fun c5 j6 h6 => ?_) (fun c5 x ja hj => ?_)
  case refine_2 =>
    rw [kS, b28_97 hrp, zg (by omega) (by omega), zcln (by omega), zu_o (show rp ≠ rp + 3 by omega), hj.2.2.2.1, ns]
    have h2 := Ge_w (c := rp + 3) (k := N) (v := x) hj hrp (by omega) (by omega)
    exact hE _ (N + 1) _ (yTh_n c5) (by omega) ⟨by rw [zu_o (by omega)]; exact h2.1, by rw [zu_o (by omega)]; exact h2.2.1, h2.2.2.1, zu_eq _ _ _ _, yFl_u h2.2.2.2.2 (Or.inr (Or.inr (Or.inr ⟨by omega, by omega⟩)))⟩
  rw [yTh_0 (show ycN b n 0 999 (yit b n 5 i) = 0 from c5)] at hO
  rw [kS, b28_97 hrp, zg (by omega) (by omega), zcln (by omega)]
  have h6 := L_w (g := 3) (k := N) (v := zTv b n (yit b n 5 i)) h6 hrp (Or.inl ⟨by decide, by decide⟩)
  rw [show zTv b n (zTn b n (zTn b n (zTn b n (zTn b n (zTn b n i))))) = zTv b n (yit b n 5 i) from rfl, h6.2.2.2.2.2.2.1, ns]
  have h7 := L_rp (k := 1) (v := N + 1) h6 hrp (by decide)
  refine hO _ _ rfl (yCL_m h7 (fun g k hg => ?_))
  rcases hg with ⟨rfl, hk⟩ | ⟨rfl, hk⟩ | ⟨rfl, hk⟩ | hg | hg | hg
  · have hk : k < N + 1 := hk
    by_cases q : k = N
    · exact Or.inl (Or.inl (Or.inl (Or.inl (Or.inr ⟨rfl, q⟩))))
    · exact Or.inl (Or.inl (Or.inl (Or.inl (Or.inl (Or.inl ⟨rfl, by omega⟩)))))
  · have hk : k < 3 * (N + 1) := hk
    by_cases q0 : k = 3 * N
    · exact Or.inl (Or.inl (Or.inl (Or.inr ⟨rfl, q0⟩)))
    by_cases q1 : k = 3 * N + 1
    · exact Or.inl (Or.inl (Or.inr ⟨rfl, q1⟩))
    by_cases q2 : k = 3 * N + 2
    · exact Or.inl (Or.inr ⟨rfl, q2⟩)
    exact Or.inl (Or.inl (Or.inl (Or.inl (Or.inl (Or.inr (Or.inl ⟨rfl, by omega⟩))))))
  · have hk : k < N + 1 := hk
    by_cases q : k = N
    · exact Or.inr ⟨rfl, q⟩
    · exact Or.inl (Or.inl (Or.inl (Or.inl (Or.inl (Or.inr (Or.inr (Or.inl ⟨rfl, by omega⟩)))))))
  · exact Or.inl (Or.inl (Or.inl (Or.inl (Or.inl (Or.inr (Or.inr (Or.inr (Or.inl hg))))))))
  · exact Or.inl (Or.inl (Or.inl (Or.inl (Or.inl (Or.inr (Or.inr (Or.inr (Or.inr (Or.inl hg)))))))))
  · exact Or.inl (Or.inl (Or.inl (Or.inl (Or.inl (Or.inr (Or.inr (Or.inr (Or.inr (Or.inr hg)))))))))
end ZP
