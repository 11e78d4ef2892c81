/-! calls that only look -/
theorem znd {c : Prop} [Decidable c] (h : ¬ c) : ¬ (decide c = true) := by simpa using h
def zEndK (ia : Nat → Nat → Int32) (Km : Option Value → Option Value → zHP → Prop) : Prop := ∀ v ja lb pl dr cp cw rp, zInv pl dr ja lb → ja 900 = ia 900 → ja 901 = ia 901 → Km v v (ja, lb, zRA pl dr cp cw rp)
theorem zfin {pl dr : Nat} {ia : Nat → Nat → Int32} {la : Nat → Nat → Int64} {Km : Option Value → Option Value → zHP → Prop} (hI : zInv pl dr ia la) (hm : zEndK ia Km) : ∀ (v v2 : Option Value) ja lb cp cw rp, zFr ia la ja lb → v2 = v → Km v v2 (ja, lb, zRA pl dr cp cw rp) := by
  intro v v2 ja lb cp cw rp hf e
  subst e
  exact hm _ _ _ _ _ _ _ _ (zInv_fr hI hf) (zFr_c hf (zScr_9 (by decide))) (zFr_c hf (zScr_9 (by decide)))
/-- the first of n from i on that is x -/
def zfd (f : Nat → Int32) (x : Int32) : Nat → Nat → Int32
  | 0, _ => -1
  | n + 1, i => if f i = x then nI i else zfd f x n (i + 1)
theorem zfd_e {f g : Nat → Int32} {x : Int32} : ∀ n i : Nat, (∀ j, i ≤ j → j < i + n → f j = g j) → zfd f x n i = zfd g x n i := by
  intro n
  induction n with
  | zero => intro i _; rfl
  | succ n ih =>
    intro i h
    unfold zfd
    rw [h i (by omega) (by omega), ih (i + 1) (fun j h1 h2 => h j (by omega) (by omega))]
def zbS (P : Nat → Bool) (i : Nat) (a : Int32) : Int32 := if P i = true then a ||| (1 <<< (nI i &&& 31)) else a
def zcS (P : Nat → Bool) (i : Nat) (a : Int32) : Int32 := if P i = true then a + 1 else a
theorem zit_e {α : Type} {f g : Nat → α → α} {a : α} : ∀ n : Nat, (∀ i b, i < n → f i b = g i b) → zit f n a = zit g n a := by
  intro n
  induction n with
  | zero => intro _; rfl
  | succ n ih =>
    intro h
    show f n (zit f n a) = g n (zit g n a)
    rw [ih (fun i b hi => h i b (by omega)), h n _ (by omega)]
theorem zcS_n (P : Nat → Bool) : ∀ n : Nat, zit (zcS P) n (0 : Int32) = nI (zcnt P n) := by
  intro n
  induction n with
  | zero => rfl
  | succ n ih =>
    show zcS P n (zit (zcS P) n 0) = _
    rw [ih]
    show _ = nI (if P n = true then zcnt P n + 1 else zcnt P n)
    unfold zcS
    by_cases h : P n = true
    · rw [if_pos h, if_pos h, ns]
    · rw [if_neg h, if_neg h]
theorem zcnt_more {P : Nat → Bool} {n : Nat} : ∀ m : Nat, (∀ i, n ≤ i → i < n + m → P i = false) → zcnt P (n + m) = zcnt P n := by
  intro m
  induction m with
  | zero => intro _; rfl
  | succ m ih =>
    intro h
    show zcnt P (n + m + 1) = _
    unfold zcnt
    rw [h (n + m) (by omega) (by omega), if_neg (by decide), ih (fun i h1 h2 => h i h1 (by omega))]
    cases n <;> rfl
theorem zds_e {f f' g g' : Nat → Int32} {a a' b b' : Nat} (h1 : ∀ i, i < 3 → f (a + i) = f' (a' + i)) (h2 : ∀ i, i < 3 → g (b + i) = g' (b' + i)) : zds f g a b = zds f' g' a' b' := by
  unfold zds
  rw [h1 1 (by omega), h1 2 (by omega), h2 1 (by omega), h2 2 (by omega), show f a = f' a' from h1 0 (by omega), show g b = g' b' from h2 0 (by omega)]
theorem zpers (x : Int32) {N : Nat} (hN : N ≤ 12) : (x < 0 ∨ nI N ≤ x) ∨ ∃ h, h < N ∧ x = nI h ∧ ¬ (x < 0 ∨ nI N ≤ x) := by
  rcases pk_ix x (n := N) (by omega) with h | h | ⟨h, hh, e⟩
  · exact Or.inl (Or.inl h)
  · exact Or.inl (Or.inr h)
  · refine Or.inr ⟨h, hh, e, ?_⟩
    rw [e]
    rintro (q | q)
    · exact nI_pos (by omega) q
    · exact nI_nle1 hh (by omega) q
section ZP
variable {d pl dr N L T D s : Nat} {cp cw rp : Option Nat} {p ia W V : Nat → Nat → Int32} {o : Nat → Int32} {r bn x : Int32} {la : Nat → Nat → Int64} {K : Option Value → zHP → Prop}
theorem zC_N (hC : zCore pl p N L T D W r ia la) : ia pl 1 = nI N := by rw [show ia pl = p 0 from hC.1 0 (by omega)]; exact hC.2.1.1
theorem zC_T (hC : zCore pl p N L T D W r ia la) : ia pl 3 = nI T := by rw [show ia pl = p 0 from hC.1 0 (by omega)]; exact hC.2.1.2.2.2.2.1
theorem zC_W (hC : zCore pl p N L T D W r ia la) {g : Nat} (hg : g < 10) : ia (72 + g) = W g := hC.2.2.2.2.1 g hg
theorem zC_0 (hC : zCore pl p N L T D W r ia la) : zHas N 0 W r ia := hC.2.2.2.2.2.2.1
theorem zC_f (hC : zCore pl p N L T D W r ia la) : zWf p N T D W := hC.2.2.2.2.2.1
theorem zC_153 (hC : zCore pl p N L T D W r ia la) {h : Nat} (hh : h < 6) : ia 153 h = zet (W 3 h) ∧ ia 154 h = W 4 h ∧ ia 155 h = W 5 h ∧ ia 156 h = W 1 h := by
  have := (zC_0 hC).2.2.2.2.2.2.1 h hh
  simpa using this
theorem zC_152 (hC : zCore pl p N L T D W r ia la) {i : Nat} (hi : i < 3 * N) : ia 152 i = W 2 i := by
  have := (zC_0 hC).2.2.2.2.2.1 i (by have := hC.2.1.2.1; omega)
  rw [if_pos hi] at this
  simpa using this
theorem zC_157 (hC : zCore pl p N L T D W r ia la) {h : Nat} (hh : h < 12) : ia 157 h = W 6 h := by
  have := (zC_0 hC).2.2.2.2.2.2.2.1 h hh
  simpa using this
theorem zC_158 (hC : zCore pl p N L T D W r ia la) {i : Nat} (hi : i < 36) : ia 158 i = if W 6 (i / 3) = 0 then -2 else W 9 i := by
  have := (zC_0 hC).2.2.2.2.2.2.2.2 i hi
  simpa using this
theorem S_isP (hpl : zIsP pl) (hC : zCore pl p N L T D W r ia la) : zWM d 80 [.ref 0, .int x] (ia, la, zRA pl dr cp cw rp) K = K (some (.int (if x < 0 ∨ nI N ≤ x then 0 else 1))) (ia, la, zRA pl dr cp cw rp) := by
  rw [S_isPerson hpl, zC_N hC]
theorem S_isM (hR : zPR p ia N L T) : zWM d 171 [.ref 127, .int x] (ia, la, zRA pl dr cp cw rp) K = K (some (.int (if x < 0 ∨ nI N ≤ x then 0 else 1))) (ia, la, zRA pl dr cp cw rp) := by
  rw [S_isMan, hR.1]
theorem S_isL (hpl : zIsP pl) (hC : zCore pl p N L T D W r ia la) : zWM d 81 [.ref 0, .int x] (ia, la, zRA pl dr cp cw rp) K = K (some (.int (if x < 0 ∨ nI T ≤ x then 0 else 1))) (ia, la, zRA pl dr cp cw rp) := by
  rw [e81, b81_0 hpl, zC_T hC]
  by_cases h1 : x < 0
  · simp only [h1, true_or, if_true]
  · by_cases h2 : nI T ≤ x
    · simp only [h1, h2, or_true, if_true, if_false]
    · simp only [h1, h2, or_false, if_false]
theorem S_dN (hpl : zIsP pl) (hC : zCore pl p N L T D W r ia la) {h q : Nat} (hh : h < 6) (hq : q < 6) : zWM (d + 5) 95 [.ref 0, .ref 74, .int (nI h), .int (nI q)] (ia, la, zRA pl dr cp cw rp) K = K (some (.int (zds (W 2) (p 2) (3 * h) (3 * q)))) (ia, la, zRA pl dr cp cw rp) := by
  rw [S_dist hpl rfl (show 3 * h + 2 < 18 by omega) (by decide) hq, show ia 74 = W 2 from zC_W hC (g := 2) (by omega), hC.1 2 (by omega)]
theorem S_aN (hN : N ≤ 6) (hH : zHas N 0 W r ia) (hR : zPR p ia N L T) {h q : Nat} (hh : h < N) (hq : q < N) : zWM (d + 5) 189 [.ref 127, .int 0, .int (nI h), .int (nI q)] (ia, la, zRA pl dr cp cw rp) K = K (some (.int (zds (W 2) (p 2) (3 * h) (3 * q)))) (ia, la, zRA pl dr cp cw rp) := by
  have e := S_apartOf (d := d) (pl := pl) (dr := dr) (cp := cp) (cw := cw) (rp := rp) (ia := ia) (la := la) (K := K) (s := 0) (h := h) (q := q) (by omega) (by omega) (by omega)
  refine Eq.trans e ?_
  rw [zds_e (f' := W 2) (g' := p 2) (a' := 3 * h) (b' := 3 * q) (fun i hi => ?_) (fun i hi => ?_)]
  · have := hH.2.2.2.2.2.1 (3 * h + i) (by omega)
    rw [if_pos (by omega)] at this
    rw [← this]
    congr 1
    omega
  · exact hR.2.2.2.2.2.2.2.2.1 _ (by omega)
theorem S_hdM {h : Nat} (hs : s < 23) (hH : zHas N s W r ia) (hh : h < 6) : zWM (d + 1) 173 [.ref 127, .int (nI s), .int (nI h)] (ia, la, zRA pl dr cp cw rp) K = K (some (.int (zHd W h))) (ia, la, zRA pl dr cp cw rp) := by
  have e := S_holderM (d := d) (pl := pl) (dr := dr) (cp := cp) (cw := cw) (rp := rp) (N := N) (W := W) (r := r) (ia := ia) (la := la) (K := K) hs hh
  rw [zHas_eq hH] at e
  exact e
theorem S_ltM {h : Nat} (hs : s < 23) (hH : zHas N s W r ia) (hh : h < 6) : zWM d 172 [.ref 127, .int (nI s), .int (nI h)] (ia, la, zRA pl dr cp cw rp) K = K (some (.int (if W 3 h < 0 then 0 else 1))) (ia, la, zRA pl dr cp cw rp) := by
  have e := S_isLetM (d := d) (pl := pl) (dr := dr) (cp := cp) (cw := cw) (rp := rp) (N := N) (W := W) (r := r) (ia := ia) (la := la) (K := K) hs hh
  rw [zHas_eq hH] at e
  exact e
theorem S_hdC {w h : Nat} (hw : zIsW w) (hh : h < 6) (e3 : ia (w + 3) = W 3) : zWM (d + 1) 70 [.ref w, .int (nI h)] (ia, la, zRA pl dr cp cw rp) K = K (some (.int (zHd W h))) (ia, la, zRA pl dr cp cw rp) := by
  have e := S_holder (d := d) (pl := pl) (dr := dr) (cp := cp) (cw := cw) (rp := rp) (W := fun g => ia (w + g)) (ia := ia) (la := la) (K := K) hw hh
  rw [zPW_s] at e
  rw [e]
  have e2 : zHd (fun g => ia (w + g)) h = zHd W h := by
    unfold zHd
    simp only [e3]
  rw [e2]
theorem S_pn {n : Nat} (hp : zIsP pl) (hn : n ≤ 6) (e : ia pl 1 = nI n) {pl' : Nat} : zWM d 21 [.ref pl, .int x] (ia, la, zRA pl' dr cp cw rp) K = K (some (.int (zfd (ia (pl + 1)) x n 0))) (ia, la, zRA pl' dr cp cw rp) := by
  rw [e21, b21_0 hp]
  have lp : ∀ m i : Nat, i + m = n → zWP d 21 2 [some (.ref pl), some (.int x), some (.int (nI i))] [] (ia, la, zRA pl' dr cp cw rp) K = K (some (.int (zfd (ia (pl + 1)) x m i))) (ia, la, zRA pl' dr cp cw rp) := by
    intro m
    induction m with
    | zero => intro i hi; rw [b21_2 hp, e, if_pos (nI_le1 (by omega) (by omega))]; rfl
    | succ m ih =>
      intro i hi
      rw [b21_2 hp, e, if_neg (nI_nle1 (by omega) (by omega)), zg (by omega) (by omega), zcln (by omega), ns]
      unfold zfd
      by_cases h : ia (pl + 1) i = x
      · rw [if_neg (fun q => q h), if_pos h]
      · rw [if_pos h, if_neg h]; exact ih (i + 1) (by omega)
  exact lp n 0 (by omega)
theorem S_found {a b n : Nat} (hk : zkd a = 100) (hl : b + n ≤ zln a) (hz : zln a < 10000) : zWM d 142 [.ref a, .int (nI b), .int (nI n), .int x] (ia, la, zRA pl dr cp cw rp) K = K (some (.int (zfd (fun i => ia a (b + i)) x n 0))) (ia, la, zRA pl dr cp cw rp) := by
  rw [e142, b142_0]
  have lp : ∀ m i : Nat, i + m = n → zWP d 142 3 [some (.ref a), some (.int (nI b)), some (.int (nI n)), some (.int x), some (.int (nI i))] [] (ia, la, zRA pl dr cp cw rp) K = K (some (.int (zfd (fun i => ia a (b + i)) x m i))) (ia, la, zRA pl dr cp cw rp) := by
    intro m
    induction m with
    | zero => intro i hi; rw [b142_3, if_pos (nI_le1 (by omega) (by omega))]; rfl
    | succ m ih =>
      intro i hi
      rw [b142_3, if_neg (nI_nle1 (by omega) (by omega)), nI_add, zdrop ⟨hk, zvi (by omega) (by omega)⟩, zcln (by omega), ns]
      unfold zfd
      by_cases h : ia a (b + i) = x
      · rw [if_neg (fun q => q h), if_pos h]
      · rw [if_pos h, if_neg h]; exact ih (i + 1) (by omega)
  exact lp n 0 (by omega)
theorem S_held (hpl : zIsP pl) (hC : zCore pl p N L T D W r ia la) : zWM (d + 2) 83 [.ref 0, .int x] (ia, la, zRA pl dr cp cw rp) K = K (some (.int (zit (zbS (fun i => decide (zHd W i = x))) N 0))) (ia, la, zRA pl dr cp cw rp) := by
  have hN : N ≤ 6 := hC.2.1.2.1
  rw [e83, b83_0]
  refine Eq.trans (zlpE (fun i => zWP (d + 2) 83 4 [some (.ref 0), some (.int x), some (.int (zit (zbS (fun i => decide (zHd W i = x))) i 0)), some (.int (nI i))] [] (ia, la, zRA pl dr cp cw rp) K) N ?_) ?_
  · intro i hi
    show zWP (d + 2) 83 4 [some (.ref 0), some (.int x), some (.int (zit (zbS (fun i => decide (zHd W i = x))) i 0)), some (.int (nI i))] [] (ia, la, zRA pl dr cp cw rp) K = zWP (d + 2) 83 4 [some (.ref 0), some (.int x), some (.int (zbS (fun i => decide (zHd W i = x)) i (zit (zbS (fun i => decide (zHd W i = x))) i 0))), some (.int (nI (i + 1)))] [] (ia, la, zRA pl dr cp cw rp) K
    generalize zit (zbS (fun i => decide (zHd W i = x))) i 0 = a
    rw [b83_4 hpl, zC_N hC, if_neg (nI_nle1 hi (by omega)), S_hdC (W := W) (Or.inl rfl) (by omega) (zC_W hC (g := 3) (by omega)), kS, b83_23, ns]
    unfold zbS
    by_cases h : zHd W i = x
    · rw [if_neg (fun q => q h), if_pos (decide_eq_true h)]
    · rw [if_pos h, if_neg (znd h)]
  · rw [b83_4 hpl, zC_N hC, if_pos (nI_le1 (by omega) (by omega))]
theorem S_heldM (hN : N ≤ 6) (hH : zHas N 0 W r ia) (hR : zPR p ia N L T) : zWM (d + 2) 192 [.ref 127, .int x] (ia, la, zRA pl dr cp cw rp) K = K (some (.int (zit (zbS (fun i => decide (zHd W i = x))) N 0))) (ia, la, zRA pl dr cp cw rp) := by
  rw [e192, b192_0]
  refine Eq.trans (zlpE (fun i => zWP (d + 2) 192 4 [some (.ref 127), some (.int x), some (.int (zit (zbS (fun i => decide (zHd W i = x))) i 0)), some (.int (nI i))] [] (ia, la, zRA pl dr cp cw rp) K) N ?_) ?_
  · intro i hi
    show zWP (d + 2) 192 4 [some (.ref 127), some (.int x), some (.int (zit (zbS (fun i => decide (zHd W i = x))) i 0)), some (.int (nI i))] [] (ia, la, zRA pl dr cp cw rp) K = zWP (d + 2) 192 4 [some (.ref 127), some (.int x), some (.int (zbS (fun i => decide (zHd W i = x)) i (zit (zbS (fun i => decide (zHd W i = x))) i 0))), some (.int (nI (i + 1)))] [] (ia, la, zRA pl dr cp cw rp) K
    generalize zit (zbS (fun i => decide (zHd W i = x))) i 0 = a
    rw [b192_4, hR.1, if_neg (nI_nle1 hi (by omega))]
    refine Eq.trans (S_hdM (s := 0) (by omega) hH (by omega)) ?_
    rw [kS, b192_21, ns]
    unfold zbS
    by_cases h : zHd W i = x
    · rw [if_neg (fun q => q h), if_pos (decide_eq_true h)]
    · rw [if_pos h, if_neg (znd h), Int32.or_zero]
  · rw [b192_4, hR.1, if_pos (nI_le1 (by omega) (by omega))]
theorem S_forg (hpl : zIsP pl) (hC : zCore pl p N L T D W r ia la) : zWM d 84 [.ref 0, .int x] (ia, la, zRA pl dr cp cw rp) K = K (some (.int (zit (zcS (fun k => decide (p (16 + k) 0 = x ∧ W 6 k = 2))) T 0))) (ia, la, zRA pl dr cp cw rp) := by
  have hT : T ≤ 12 := hC.2.1.2.2.2.2.2.1
  rw [e84, b84_0]
  refine Eq.trans (zlpE (fun i => zWP d 84 4 [some (.ref 0), some (.int x), some (.int (zit (zcS (fun k => decide (p (16 + k) 0 = x ∧ W 6 k = 2))) i 0)), some (.int (nI i))] [] (ia, la, zRA pl dr cp cw rp) K) T ?_) ?_
  · intro i hi
    show zWP d 84 4 [some (.ref 0), some (.int x), some (.int (zit (zcS (fun k => decide (p (16 + k) 0 = x ∧ W 6 k = 2))) i 0)), some (.int (nI i))] [] (ia, la, zRA pl dr cp cw rp) K = zWP d 84 4 [some (.ref 0), some (.int x), some (.int (zcS (fun k => decide (p (16 + k) 0 = x ∧ W 6 k = 2)) i (zit (zcS (fun k => decide (p (16 + k) 0 = x ∧ W 6 k = 2))) i 0))), some (.int (nI (i + 1)))] [] (ia, la, zRA pl dr cp cw rp) K
    generalize zit (zcS (fun k => decide (p (16 + k) 0 = x ∧ W 6 k = 2))) i 0 = a
    rw [b84_4 hpl, zC_T hC, if_neg (nI_nle1 hi (by omega)), zg (by omega) (by omega), zcln (by omega), Nat.add_assoc, hC.1 (16 + i) (by omega), show ia 78 = W 6 from zC_W hC (g := 6) (by omega), ns]
    unfold zcS
    by_cases h1 : p (16 + i) 0 = x
    · rw [if_neg (fun q => q h1)]
      by_cases h2 : W 6 i = 2
      · rw [if_neg (fun q => q h2), if_pos (decide_eq_true ⟨h1, h2⟩)]
      · rw [if_pos h2, if_neg (znd (fun q => h2 q.2))]
    · rw [if_pos h1, if_neg (znd (fun q => h1 q.1))]
  · rw [b84_4 hpl, zC_T hC, if_pos (nI_le1 (by omega) (by omega))]
theorem S_forgM (hs : s < 23) (hT : T ≤ 12) (hH : zHas N s W r ia) (hR : zPR p ia N L T) : zWM d 187 [.ref 127, .int (nI s), .int x] (ia, la, zRA pl dr cp cw rp) K = K (some (.int (zit (zcS (fun k => decide ((x = -1 ∨ p (16 + k) 0 = x) ∧ W 6 k = 2))) T 0))) (ia, la, zRA pl dr cp cw rp) := by
  rw [e187, b187_0]
  have key : ∀ m i a5, i + m = T → zWP d 187 5 [some (.ref 127), some (.int (nI s)), some (.int x), some (.int (zit (zcS (fun k => decide ((x = -1 ∨ p (16 + k) 0 = x) ∧ W 6 k = 2))) i 0)), some (.int (nI i)), a5] [] (ia, la, zRA pl dr cp cw rp) K = K (some (.int (zit (zcS (fun k => decide ((x = -1 ∨ p (16 + k) 0 = x) ∧ W 6 k = 2))) T 0))) (ia, la, zRA pl dr cp cw rp) := by
    intro m
    induction m with
    | zero =>
      intro i a5 hi
      rw [b187_5, hR.2.2.1, if_pos (nI_le1 (by omega) (by omega)), show i = T by omega]
    | succ m ih =>
      intro i a5 hi
      have ih := fun a5 => ih (i + 1) a5 (by omega)
      rw [show zit (zcS (fun k => decide ((x = -1 ∨ p (16 + k) 0 = x) ∧ W 6 k = 2))) (i + 1) (0 : Int32) = zcS (fun k => decide ((x = -1 ∨ p (16 + k) 0 = x) ∧ W 6 k = 2)) i (zit (zcS (fun k => decide ((x = -1 ∨ p (16 + k) 0 = x) ∧ W 6 k = 2))) i 0) from rfl] at ih
      generalize zit (zcS (fun k => decide ((x = -1 ∨ p (16 + k) 0 = x) ∧ W 6 k = 2))) i 0 = a at ih ⊢
      rw [b187_5, hR.2.2.1, if_neg (nI_nle1 (by omega) (by omega)), m12, zg (by omega) (by omega), zcln (by omega), hH.2.2.2.2.2.2.2.1 i (by omega), b187_37, b187_37, ns, if_pos (show (0 : Int32) = 0 from rfl), if_neg (show ¬ (1 : Int32) = 0 by decide), zg (by omega) (by omega), zcln (by omega), (hR.2.2.2.2.2.2.2.2.2.2.2.1 i (by omega)).1, Int32.add_zero]
      unfold zcS at ih
      by_cases h2 : W 6 i = 2
      · rw [if_neg (fun q => q h2)]
        by_cases h1 : x = -1
        · rw [if_pos h1]
          rw [if_pos (decide_eq_true ⟨Or.inl h1, h2⟩)] at ih
          exact ih _
        · rw [if_neg h1]
          by_cases h3 : p (16 + i) 0 = x
          · rw [if_neg (fun q => q h3)]
            rw [if_pos (decide_eq_true ⟨Or.inr h3, h2⟩)] at ih
            exact ih _
          · rw [if_pos h3]
            rw [if_neg (znd (fun q => q.1.elim h1 h3))] at ih
            exact ih _
      · rw [if_pos h2]
        rw [if_neg (znd (fun q => h2 q.2))] at ih
        exact ih _
  exact key T 0 none (by omega)
end ZP
theorem T_fault {d pl dr : Nat} {cp cw rp : Option Nat} {ia : Nat → Nat → Int32} {la : Nat → Nat → Int64} {Kc : Option Value → zHP → Prop} {Km : Option Value → Option Value → zHP → Prop} {x1 : Int32} (hI : zInv pl dr ia la) (hc : ∀ v hp, zWM (d + 400) 162 [.ref 127, .int x1] hp (Km v) → Kc v hp) (hm : zEndK ia Km) : zWM (d + 400) 78 [.ref 0, .int x1] (ia, la, zRA pl dr cp cw rp) Kc := by
  have fin := zfin hI hm
  obtain ⟨i1, i2, i3, i4, i5, i6, i7, p, N, L, T, D, W, r, hC, hM, hDe, hNo⟩ := hI
  have hN6 : N ≤ 6 := hC.2.1.2.1
  have hT12 : T ≤ 12 := hC.2.1.2.2.2.2.2.1
  rw [e78, b78_0]
  by_cases h0 : x1 = 0
  · rw [if_neg (fun q => q h0)]
    refine hc _ _ ?_
    rw [e162, b162_0, if_neg (fun q => q h0)]
    exact fin _ _ _ _ _ _ _ (zFr_0 zFr_r) (by rw [zu_k (by decide), i6])
  · rw [if_pos h0]
    by_cases h1 : x1 = 1
    · rw [if_neg (fun q => q h1)]
      refine hc _ _ ?_
      rw [e162, b162_0, if_pos h0, if_neg (fun q => q h1)]
      exact fin _ _ _ _ _ _ _ (zFr_0 zFr_r) (by rw [zu_k (by decide), i7])
    · rw [if_pos h1]
      refine hc _ _ ?_
      rw [e162, b162_0, if_pos h0, if_pos h1]
      exact fin _ _ _ _ _ _ _ (zFr_0 zFr_r) rfl
theorem T_named {d pl dr : Nat} {cp cw rp : Option Nat} {ia : Nat → Nat → Int32} {la : Nat → Nat → Int64} {Kc : Option Value → zHP → Prop} {Km : Option Value → Option Value → zHP → Prop} {x1 : Int32} (hI : zInv pl dr ia la) (hc : ∀ v hp, zWM (d + 400) 163 [.ref 127, .int x1] hp (Km v) → Kc v hp) (hm : zEndK ia Km) : zWM (d + 400) 79 [.ref 0, .int x1] (ia, la, zRA pl dr cp cw rp) Kc := by
  have fin := zfin hI hm
  obtain ⟨i1, i2, i3, i4, i5, i6, i7, p, N, L, T, D, W, r, hC, hM, hDe, hNo⟩ := hI
  have hN6 : N ≤ 6 := hC.2.1.2.1
  have hT12 : T ≤ 12 := hC.2.1.2.2.2.2.2.1
  rw [e79, b79_0 i1, S_pn i1 hN6 (zC_N hC), kS, b79_8]
  refine hc _ _ ?_
  rw [e163, b163_0, zu_o (by decide), hC.2.2.1.1]
  refine Eq.mpr (S_found (b := 0) (n := N) rfl (show 0 + N ≤ 12 by omega) (by decide)) ?_
  rw [kS, b163_20]
  refine fin _ _ _ _ _ _ _ (zFr_0 zFr_r) ?_
  congr 2
  refine zfd_e N 0 (fun j _ hj => ?_)
  rw [zu_o (by decide), hC.1 1 (by omega), Nat.zero_add]
  exact hC.2.2.1.2.2.2.2.2.2.2.1 j (by omega)
theorem T_man {d pl dr : Nat} {cp cw rp : Option Nat} {ia : Nat → Nat → Int32} {la : Nat → Nat → Int64} {Kc : Option Value → zHP → Prop} {Km : Option Value → Option Value → zHP → Prop} {x1 x2 : Int32} (hI : zInv pl dr ia la) (hc : ∀ v hp, zWM (d + 400) 193 [.ref 127, .int x1, .int x2] hp (Km v) → Kc v hp) (hm : zEndK ia Km) : zWM (d + 400) 82 [.ref 0, .int x1, .int x2] (ia, la, zRA pl dr cp cw rp) Kc := by
  have fin := zfin hI hm
  obtain ⟨i1, i2, i3, i4, i5, i6, i7, p, N, L, T, D, W, r, hC, hM, hDe, hNo⟩ := hI
  have hN6 : N ≤ 6 := hC.2.1.2.1
  have hT12 : T ≤ 12 := hC.2.1.2.2.2.2.2.1
  have hl := zC_0 hC
  have hR := hC.2.2.1
  have hR' : zPR p (zu ia 127 0 0) N L T := zPR_i (fun c h1 h2 => zu_o (by omega)) hR
  have hl' : zHas N 0 W r (zu ia 127 0 0) := zHas_fr (la := la) (lb := la) (by decide) (zFr_0 zFr_r) hl
  rw [e82, b82_0, S_isP i1 hC, kS, b82_5]
  rcases zpers x1 (N := N) (by omega) with h | ⟨h, hh, rfl, hn⟩
  · rw [if_pos h, if_neg (fun q => q rfl)]
    refine hc _ _ ?_
    rw [e193, b193_0, S_isM hR', kS, b193_10, if_pos h, if_neg (fun q => q rfl)]
    exact fin _ _ _ _ _ _ _ (zFr_0 zFr_r) rfl
  · rw [if_neg hn, if_pos (by decide)]
    have tr : ∀ k, k < 3 → x2 = nI k → zWP (d + 400) 82 48 [some (.ref 0), some (.int (nI h)), some (.int x2)] [] (ia, la, zRA pl dr cp cw rp) Kc := by
      intro k hk e
      subst e
      rw [b82_48 i1, n3, zg (by omega) (by omega), zcln (by omega), hC.1 2 (by omega)]
      refine hc _ _ ?_
      rw [e193, b193_0, S_isM hR', kS, b193_10, if_neg hn, if_pos (by decide), m3, zg (by omega) (by omega), zcln (by omega), zu_o (show (131 : Nat) ≠ 127 by decide), hR.2.2.2.2.2.2.2.2.1 _ (by omega)]
      have e3 : k = 0 ∨ k = 1 ∨ k = 2 := by omega
      rcases e3 with rfl | rfl | rfl
      · rw [if_pos (show nI 0 = 0 from rfl)]; exact fin _ _ _ _ _ _ _ (zFr_0 zFr_r) rfl
      · rw [if_neg (by decide), if_pos (show nI 1 = 1 from rfl)]; exact fin _ _ _ _ _ _ _ (zFr_0 zFr_r) rfl
      · rw [if_neg (by decide), if_neg (by decide), if_pos (show nI 2 = 2 from rfl)]; exact fin _ _ _ _ _ _ _ (zFr_0 zFr_r) rfl
    by_cases c0 : x2 = 0
    · rw [if_pos c0]; exact tr 0 (by omega) c0
    rw [if_neg c0]
    by_cases c1 : x2 = 1
    · rw [if_pos c1]; exact tr 1 (by omega) c1
    rw [if_neg c1]
    by_cases c2 : x2 = 2
    · rw [if_pos c2]; exact tr 2 (by omega) c2
    rw [if_neg c2]
    by_cases c3 : x2 = 3
    · rw [if_pos c3, zg (by omega) (by omega), zcln (by omega), show ia 73 = W 1 from zC_W hC (g := 1) (by omega)]
      refine hc _ _ ?_
      rw [e193, b193_0, S_isM hR', kS, b193_10, if_neg hn, if_pos (by decide), if_neg c0, if_neg c1, if_neg c2, if_pos c3, zg (by omega) (by omega), zcln (by omega), zu_o (by decide)]
      exact fin _ _ _ _ _ _ _ (zFr_0 zFr_r) (by rw [(zC_153 hC (by omega)).2.2.2])
    rw [if_neg c3]
    by_cases c4 : x2 = 4
    · rw [if_pos c4, S_held i1 hC, kS, b82_77]
      refine hc _ _ ?_
      rw [e193, b193_0, S_isM hR', kS, b193_10, if_neg hn, if_pos (by decide), if_neg c0, if_neg c1, if_neg c2, if_neg c3, if_pos c4, S_heldM hN6 hl' hR', kS, b193_79]
      exact fin _ _ _ _ _ _ _ (zFr_0 zFr_r) rfl
    rw [if_neg c4]
    by_cases c5 : x2 = 5
    · rw [if_pos c5, S_forg i1 hC, kS, b82_83]
      refine hc _ _ ?_
      rw [e193, b193_0, S_isM hR', kS, b193_10, if_neg hn, if_pos (by decide), if_neg c0, if_neg c1, if_neg c2, if_neg c3, if_neg c4, if_pos c5]
      refine Eq.mpr (S_forgM (s := 0) (by omega) hT12 hl' hR') ?_
      rw [kS, b193_86]
      refine fin _ _ _ _ _ _ _ (zFr_0 zFr_r) ?_
      congr 2
      refine zit_e T (fun i b hi => ?_)
      unfold zcS
      have : ¬ nI h = -1 := fun q => nI_pos (n := h) (by omega) (by rw [q]; decide)
      simp only [this, false_or]
    rw [if_neg c5]
    refine hc _ _ ?_
    rw [e193, b193_0, S_isM hR', kS, b193_10, if_neg hn, if_pos (by decide), if_neg c0, if_neg c1, if_neg c2, if_neg c3, if_neg c4, if_neg c5]
    exact fin _ _ _ _ _ _ _ (zFr_0 zFr_r) rfl
theorem T_letter {d pl dr : Nat} {cp cw rp : Option Nat} {ia : Nat → Nat → Int32} {la : Nat → Nat → Int64} {Kc : Option Value → zHP → Prop} {Km : Option Value → Option Value → zHP → Prop} {x1 x2 : Int32} (hI : zInv pl dr ia la) (hc : ∀ v hp, zWM (d + 400) 194 [.ref 127, .int x1, .int x2] hp (Km v) → Kc v hp) (hm : zEndK ia Km) : zWM (d + 400) 85 [.ref 0, .int x1, .int x2] (ia, la, zRA pl dr cp cw rp) Kc := by
  have fin := zfin hI hm
  obtain ⟨i1, i2, i3, i4, i5, i6, i7, p, N, L, T, D, W, r, hC, hM, hDe, hNo⟩ := hI
  have hN6 : N ≤ 6 := hC.2.1.2.1
  have hT12 : T ≤ 12 := hC.2.1.2.2.2.2.2.1
  have hR := hC.2.2.1
  have hf := zC_f hC
  have o0 : ∀ c, c ≠ 127 → zu ia 127 0 0 c = ia c := fun c h => zu_o h
  rw [e85, b85_0, S_isL i1 hC, kS, b85_5 i1]
  have nlt : ∀ h, h < T → ¬ nI h < 0 ∧ nI h < nI T := fun h hh => ⟨nI_pos (by omega), nI_lt hh (by omega)⟩
  rcases zpers x1 (N := T) (by omega) with h | ⟨h, hh, rfl, hn⟩
  · rw [if_pos h, if_neg (fun q => q rfl)]
    refine hc _ _ ?_
    rw [e194, b194_0, o0 129 (by decide), hR.2.2.1]
    by_cases h0 : x1 < 0
    · rw [if_pos h0]; exact fin _ _ _ _ _ _ _ (zFr_0 zFr_r) rfl
    · have h1 : nI T ≤ x1 := h.elim (fun q => absurd q h0) id
      rw [if_neg h0, if_neg (Int32.not_lt.mpr h1)]; exact fin _ _ _ _ _ _ _ (zFr_0 zFr_r) rfl
  · rw [if_neg hn, if_pos (by decide), zg (by omega) (by omega), zcln (by omega), Nat.add_assoc, hC.1 (16 + h) (by omega), show ia 78 = W 6 from zC_W hC (g := 6) (by omega), show ia 79 = W 7 from zC_W hC (g := 7) (by omega), show ia 80 = W 8 from zC_W hC (g := 8) (by omega)]
    have fin2 : ∀ v v2 : Option Value, v2 = v → Km v v2 (zu ia 127 0 0, la, zRA pl dr cp cw rp) := fun v v2 e => fin v v2 _ _ _ _ _ (zFr_0 zFr_r) e
    have mo : ∀ K : Option Value → zHP → Prop, zWM (d + 400) 194 [.ref 127, .int (nI h), .int x2] (ia, la, zRA pl dr cp cw rp) K = (if x2 = 0 then K (some (.int (p (16 + h) 0))) (zu ia 127 0 0, la, zRA pl dr cp cw rp) else if x2 = 1 then K (some (.int (p (16 + h) 1))) (zu ia 127 0 0, la, zRA pl dr cp cw rp) else if x2 = 2 then K (some (.int (p (16 + h) 2))) (zu ia 127 0 0, la, zRA pl dr cp cw rp) else if x2 = 3 then K (some (.int (W 6 h))) (zu ia 127 0 0, la, zRA pl dr cp cw rp) else if x2 = 4 then K (some (.int (if W 7 h = 0 then 0 else 1))) (zu ia 127 0 0, la, zRA pl dr cp cw rp) else if x2 = 5 then K (some (.int (if W 8 h = 0 then 0 else 1))) (zu ia 127 0 0, la, zRA pl dr cp cw rp) else if x2 = 6 then zWP (d + 400) 194 122 [some (.ref 127), some (.int (nI h)), some (.int x2)] [] (zu ia 127 0 0, la, zRA pl dr cp cw rp) K else if x2 = 7 then zWP (d + 400) 194 122 [some (.ref 127), some (.int (nI h)), some (.int x2)] [] (zu ia 127 0 0, la, zRA pl dr cp cw rp) K else if x2 = 8 then zWP (d + 400) 194 122 [some (.ref 127), some (.int (nI h)), some (.int x2)] [] (zu ia 127 0 0, la, zRA pl dr cp cw rp) K else K (some (.int (-1))) (zu ia 127 0 0, la, zRA pl dr cp cw rp)) := by
      intro K
      obtain ⟨w0, w1, w2⟩ := hR.2.2.2.2.2.2.2.2.2.2.2.1 h hh
      rw [e194, b194_0, o0 129 (by decide), hR.2.2.1, if_neg (nlt h hh).1, if_pos (nlt h hh).2, zg (by omega) (by omega), zg (by omega) (by omega), zg (by omega) (by omega), zg (by omega) (by omega), zcln (by omega), o0 138 (by decide), o0 139 (by decide), o0 140 (by decide), o0 157 (by decide), o0 150 (by decide), o0 151 (by decide), w0, w1, w2, zC_157 hC (by omega), (zC_0 hC).2.2.2.1, (zC_0 hC).2.2.2.2.1, zbt_at (by omega), zbt_at (by omega)]
    have v7 : (if W 7 h = 0 then (0 : Int32) else 1) = W 7 h := by
      rcases (hf.2.1.1 h (by omega)).2 with q | ⟨q, _⟩
      · rw [if_pos q, q]
      · rw [if_neg (by rw [q]; decide), q]
    have v8 : (if W 8 h = 0 then (0 : Int32) else 1) = W 8 h := by
      rcases hf.2.2.1 h (by omega) with q | ⟨q, _⟩
      · rw [if_pos q, q]
      · rw [if_neg (by rw [q]; decide), q]
    rw [v7, v8] at mo
    have dtr : ∀ k, k < 3 → x2 = nI (6 + k) → zWP (d + 400) 194 122 [some (.ref 127), some (.int (nI h)), some (.int x2)] [] (zu ia 127 0 0, la, zRA pl dr cp cw rp) = zWP (d + 400) 194 122 [some (.ref 127), some (.int (nI h)), some (.int (nI (6 + k)))] [] (zu ia 127 0 0, la, zRA pl dr cp cw rp) := fun k _ e => by rw [e]
    have tr : ∀ k, k < 3 → x2 = nI (6 + k) → zWP (d + 400) 85 102 [some (.ref 0), some (.int (nI h)), some (.int x2)] [] (ia, la, zRA pl dr cp cw rp) Kc := by
      intro k hk e
      subst e
      have e6 : ∀ a : Nat, nI (3 * a + (6 + k)) - 6 = nI (3 * a + k) := fun a => by rw [show (6 : Int32) = nI 6 from rfl, pk_sub (by omega)]; congr 1; omega
      have mo2 : ∀ K : Option Value → zHP → Prop, zWM (d + 400) 194 [.ref 127, .int (nI h), .int (nI (6 + k))] (ia, la, zRA pl dr cp cw rp) K = K (some (.int (if W 6 h = 0 then -2 else W 9 (3 * h + k)))) (zu ia 127 0 0, la, zRA pl dr cp cw rp) := by
        intro K
        have st : zWP (d + 400) 194 122 [some (.ref 127), some (.int (nI h)), some (.int (nI (6 + k)))] [] (zu ia 127 0 0, la, zRA pl dr cp cw rp) K = K (some (.int (if W 6 h = 0 then -2 else W 9 (3 * h + k)))) (zu ia 127 0 0, la, zRA pl dr cp cw rp) := by
          rw [b194_122, m3, e6, zg (by omega) (by omega), zcln (by omega), o0 158 (by decide), zC_158 hC (by omega), show (3 * h + k) / 3 = h by omega]
        rw [mo]
        have e3 : k = 0 ∨ k = 1 ∨ k = 2 := by omega
        rcases e3 with rfl | rfl | rfl
        · rw [if_neg (by decide), if_neg (by decide), if_neg (by decide), if_neg (by decide), if_neg (by decide), if_neg (by decide), if_pos (by decide), st]
        · rw [if_neg (by decide), if_neg (by decide), if_neg (by decide), if_neg (by decide), if_neg (by decide), if_neg (by decide), if_neg (by decide), if_pos (by decide), st]
        · rw [if_neg (by decide), if_neg (by decide), if_neg (by decide), if_neg (by decide), if_neg (by decide), if_neg (by decide), if_neg (by decide), if_neg (by decide), if_pos (by decide), st]
      rw [b85_102, zg (by omega) (by omega), zcln (by omega), show ia 78 = W 6 from zC_W hC (g := 6) (by omega), n3, e6, zg (by omega) (by omega), zcln (by omega), show ia 81 = W 9 from zC_W hC (g := 9) (by omega)]
      by_cases h6 : W 6 h = 0
      · rw [if_neg (fun q => q h6)]
        refine hc _ _ ?_
        rw [mo2, if_pos h6]
        exact fin2 _ _ rfl
      · rw [if_pos h6]
        refine hc _ _ ?_
        rw [mo2, if_neg h6]
        exact fin2 _ _ rfl
    by_cases c0 : x2 = 0
    · subst c0
      rw [if_pos rfl, v0 (by omega) (by omega)]
      refine hc _ _ ?_
      rw [mo, if_pos rfl]
      exact fin2 _ _ rfl
    rw [if_neg c0]
    by_cases c1 : x2 = 1
    · subst c1
      rw [if_pos rfl, v1 (by omega) (by omega)]
      refine hc _ _ ?_
      rw [mo, if_neg c0, if_pos rfl]
      exact fin2 _ _ rfl
    rw [if_neg c1]
    by_cases c2 : x2 = 2
    · subst c2
      rw [if_pos rfl, v2 (by omega) (by omega)]
      refine hc _ _ ?_
      rw [mo, if_neg c0, if_neg c1, if_pos rfl]
      exact fin2 _ _ rfl
    rw [if_neg c2]
    by_cases c3 : x2 = 3
    · rw [if_pos c3, zg (by omega) (by omega)]
      refine hc _ _ ?_
      rw [mo, if_neg c0, if_neg c1, if_neg c2, if_pos c3]
      exact fin2 _ _ rfl
    rw [if_neg c3]
    by_cases c4 : x2 = 4
    · rw [if_pos c4, zg (by omega) (by omega)]
      refine hc _ _ ?_
      rw [mo, if_neg c0, if_neg c1, if_neg c2, if_neg c3, if_pos c4]
      exact fin2 _ _ rfl
    rw [if_neg c4]
    by_cases c5 : x2 = 5
    · rw [if_pos c5, zg (by omega) (by omega)]
      refine hc _ _ ?_
      rw [mo, if_neg c0, if_neg c1, if_neg c2, if_neg c3, if_neg c4, if_pos c5]
      exact fin2 _ _ rfl
    rw [if_neg c5]
    by_cases c6 : x2 = 6
    · rw [if_pos c6]; exact tr 0 (by omega) c6
    rw [if_neg c6]
    by_cases c7 : x2 = 7
    · rw [if_pos c7]; exact tr 1 (by omega) c7
    rw [if_neg c7]
    by_cases c8 : x2 = 8
    · rw [if_pos c8]; exact tr 2 (by omega) c8
    rw [if_neg c8]
    refine hc _ _ ?_
    rw [mo, if_neg c0, if_neg c1, if_neg c2, if_neg c3, if_neg c4, if_neg c5, if_neg c6, if_neg c7, if_neg c8]
    exact fin2 _ _ rfl
theorem T_apart {d pl dr : Nat} {cp cw rp : Option Nat} {ia : Nat → Nat → Int32} {la : Nat → Nat → Int64} {Kc : Option Value → zHP → Prop} {Km : Option Value → Option Value → zHP → Prop} {x1 x2 : Int32} (hI : zInv pl dr ia la) (hc : ∀ v hp, zWM (d + 400) 204 [.ref 127, .int x1, .int x2] hp (Km v) → Kc v hp) (hm : zEndK ia Km) : zWM (d + 400) 96 [.ref 0, .int x1, .int x2] (ia, la, zRA pl dr cp cw rp) Kc := by
  have fin := zfin hI hm
  obtain ⟨i1, i2, i3, i4, i5, i6, i7, p, N, L, T, D, W, r, hC, hM, hDe, hNo⟩ := hI
  have hN6 : N ≤ 6 := hC.2.1.2.1
  have hT12 : T ≤ 12 := hC.2.1.2.2.2.2.2.1
  have hR' : zPR p (zu ia 127 0 0) N L T := zPR_i (fun c h1 h2 => zu_o (by omega)) hC.2.2.1
  have hl' : zHas N 0 W r (zu ia 127 0 0) := zHas_fr (la := la) (lb := la) (by decide) (zFr_0 zFr_r) (zC_0 hC)
  rw [e96, b96_0, S_isP i1 hC, kS, b96_5]
  rcases zpers x1 (N := N) (by omega) with h | ⟨h, hh, rfl, hn⟩
  · rw [if_pos h, if_pos rfl]
    refine hc _ _ ?_
    rw [e204, b204_0, S_isM hR', kS, b204_10, if_pos h, if_pos rfl]
    exact fin _ _ _ _ _ _ _ (zFr_0 zFr_r) rfl
  · rw [if_neg hn, if_neg (by decide), S_isP i1 hC, kS, b96_13]
    rcases zpers x2 (N := N) (by omega) with h2 | ⟨q, hq, rfl, hn2⟩
    · rw [if_pos h2, if_pos rfl]
      refine hc _ _ ?_
      rw [e204, b204_0, S_isM hR', kS, b204_10, if_neg hn, if_neg (by decide), S_isM hR', kS, b204_18, if_pos h2, if_pos rfl]
      exact fin _ _ _ _ _ _ _ (zFr_0 zFr_r) rfl
    · rw [if_neg hn2, if_neg (by decide), S_dN i1 hC (by omega) (by omega), kS, b96_29]
      refine hc _ _ ?_
      rw [e204, b204_0, S_isM hR', kS, b204_10, if_neg hn, if_neg (by decide), S_isM hR', kS, b204_18, if_neg hn2, if_neg (by decide), S_aN hN6 hl' hR' hh hq, kS, b204_28]
      exact fin _ _ _ _ _ _ _ (zFr_0 zFr_r) rfl
/-- the nearest of the first n + 1 -/
def zNear (f g : Nat → Int32) (h : Nat) (i b : Nat) : Nat := if zds f g (3 * h) (3 * b) ≤ zds f g (3 * h) (3 * (i + 1)) then b else i + 1
theorem zNear_lt {f g : Nat → Int32} {h : Nat} : ∀ n : Nat, zit (zNear f g h) n 0 ≤ n := by
  intro n
  induction n with
  | zero => exact Nat.le_refl _
  | succ n ih =>
    show zNear f g h n (zit (zNear f g h) n 0) ≤ n + 1
    generalize zit (zNear f g h) n 0 = b at ih
    unfold zNear
    split <;> omega
theorem T_like {d pl dr : Nat} {cp cw rp : Option Nat} {ia : Nat → Nat → Int32} {la : Nat → Nat → Int64} {Kc : Option Value → zHP → Prop} {Km : Option Value → Option Value → zHP → Prop} {x1 : Int32} (hI : zInv pl dr ia la) (hc : ∀ v hp, zWM (d + 400) 205 [.ref 127, .int x1] hp (Km v) → Kc v hp) (hm : zEndK ia Km) : zWM (d + 400) 97 [.ref 0, .int x1] (ia, la, zRA pl dr cp cw rp) Kc := by
  have fin := zfin hI hm
  obtain ⟨i1, i2, i3, i4, i5, i6, i7, p, N, L, T, D, W, r, hC, hM, hDe, hNo⟩ := hI
  have hN6 : N ≤ 6 := hC.2.1.2.1
  have hT12 : T ≤ 12 := hC.2.1.2.2.2.2.2.1
  have hR' : zPR p (zu ia 127 0 0) N L T := zPR_i (fun c h1 h2 => zu_o (by omega)) hC.2.2.1
  have hl' : zHas N 0 W r (zu ia 127 0 0) := zHas_fr (la := la) (lb := la) (by decide) (zFr_0 zFr_r) (zC_0 hC)
  rw [e97, b97_0, S_isP i1 hC, kS, b97_5]
  rcases zpers x1 (N := N) (by omega) with h | ⟨h, hh, rfl, hn⟩
  · rw [if_pos h, if_neg (fun q => q rfl)]
    refine hc _ _ ?_
    rw [e205, b205_0, S_isM hR', kS, b205_10, if_pos h, if_neg (fun q => q rfl)]
    exact fin _ _ _ _ _ _ _ (zFr_0 zFr_r) rfl
  · obtain ⟨n, rfl⟩ : ∃ n, N = n + 1 := ⟨N - 1, by omega⟩
    rw [if_neg hn, if_pos (by decide)]
    have l1 : zWP (d + 400) 97 14 [some (.ref 0), some (.int (nI h)), some (.int (nI (zit (zNear (W 2) (p 2) h) 0 0))), some (.int (nI (0 + 1)))] [] (ia, la, zRA pl dr cp cw rp) Kc = zWP (d + 400) 97 14 [some (.ref 0), some (.int (nI h)), some (.int (nI (zit (zNear (W 2) (p 2) h) n 0))), some (.int (nI (n + 1)))] [] (ia, la, zRA pl dr cp cw rp) Kc := by
      refine zlpE (fun i => zWP (d + 400) 97 14 [some (.ref 0), some (.int (nI h)), some (.int (nI (zit (zNear (W 2) (p 2) h) i 0))), some (.int (nI (i + 1)))] [] (ia, la, zRA pl dr cp cw rp) Kc) n (fun i hi => ?_)
      have hb := zNear_lt (f := W 2) (g := p 2) (h := h) i
      show zWP (d + 400) 97 14 [some (.ref 0), some (.int (nI h)), some (.int (nI (zit (zNear (W 2) (p 2) h) i 0))), some (.int (nI (i + 1)))] [] (ia, la, zRA pl dr cp cw rp) Kc = zWP (d + 400) 97 14 [some (.ref 0), some (.int (nI h)), some (.int (nI (zNear (W 2) (p 2) h i (zit (zNear (W 2) (p 2) h) i 0)))), some (.int (nI (i + 1 + 1)))] [] (ia, la, zRA pl dr cp cw rp) Kc
      generalize zit (zNear (W 2) (p 2) h) i 0 = b at hb ⊢
      rw [b97_14 i1, zC_N hC, if_neg (nI_nle1 (by omega) (by omega)), S_dN i1 hC (by omega) (by omega), kS, b97_38, S_dN i1 hC (by omega) (by omega), kS, b97_51, ns]
      unfold zNear
      by_cases c : zds (W 2) (p 2) (3 * h) (3 * b) ≤ zds (W 2) (p 2) (3 * h) (3 * (i + 1))
      · rw [if_pos c, if_pos c]
      · rw [if_neg c, if_neg c]
    refine Eq.mpr l1 ?_
    have hb := zNear_lt (f := W 2) (g := p 2) (h := h) n
    rw [b97_14 i1, zC_N hC, if_pos (nI_le1 (by omega) (by omega))]
    refine hc _ _ ?_
    rw [e205, b205_0, S_isM hR', kS, b205_10, if_neg hn, if_pos (by decide)]
    have l2 : ∀ K : Option Value → zHP → Prop, zWP (d + 400) 205 19 [some (.ref 127), some (.int (nI h)), some (.int (nI (zit (zNear (W 2) (p 2) h) 0 0))), some (.int (nI (0 + 1)))] [] (zu ia 127 0 0, la, zRA pl dr cp cw rp) K = zWP (d + 400) 205 19 [some (.ref 127), some (.int (nI h)), some (.int (nI (zit (zNear (W 2) (p 2) h) n 0))), some (.int (nI (n + 1)))] [] (zu ia 127 0 0, la, zRA pl dr cp cw rp) K := by
      intro K
      refine zlpE (fun i => zWP (d + 400) 205 19 [some (.ref 127), some (.int (nI h)), some (.int (nI (zit (zNear (W 2) (p 2) h) i 0))), some (.int (nI (i + 1)))] [] (zu ia 127 0 0, la, zRA pl dr cp cw rp) K) n (fun i hi => ?_)
      have hb := zNear_lt (f := W 2) (g := p 2) (h := h) i
      show zWP (d + 400) 205 19 [some (.ref 127), some (.int (nI h)), some (.int (nI (zit (zNear (W 2) (p 2) h) i 0))), some (.int (nI (i + 1)))] [] (zu ia 127 0 0, la, zRA pl dr cp cw rp) K = zWP (d + 400) 205 19 [some (.ref 127), some (.int (nI h)), some (.int (nI (zNear (W 2) (p 2) h i (zit (zNear (W 2) (p 2) h) i 0)))), some (.int (nI (i + 1 + 1)))] [] (zu ia 127 0 0, la, zRA pl dr cp cw rp) K
      generalize zit (zNear (W 2) (p 2) h) i 0 = b at hb ⊢
      rw [b205_19, hR'.1, if_neg (nI_nle1 (by omega) (by omega)), S_aN hN6 hl' hR' hh (by omega), kS, b205_36, S_aN hN6 hl' hR' hh (by omega), kS, b205_43, ns]
      unfold zNear
      by_cases c : zds (W 2) (p 2) (3 * h) (3 * b) ≤ zds (W 2) (p 2) (3 * h) (3 * (i + 1))
      · rw [if_pos c, if_pos c]
      · rw [if_neg c, if_neg c]
    refine Eq.mpr (l2 _) ?_
    rw [b205_19, hR'.1, if_pos (nI_le1 (by omega) (by omega))]
    exact fin _ _ _ _ _ _ _ (zFr_0 zFr_r) rfl
theorem T_could {d pl dr : Nat} {cp cw rp : Option Nat} {ia : Nat → Nat → Int32} {la : Nat → Nat → Int64} {Kc : Option Value → zHP → Prop} {Km : Option Value → Option Value → zHP → Prop} {x1 x2 : Int32} (hI : zInv pl dr ia la) (hc : ∀ v hp, zWM (d + 400) 206 [.ref 127, .int x1, .int x2] hp (Km v) → Kc v hp) (hm : zEndK ia Km) : zWM (d + 400) 98 [.ref 0, .int x1, .int x2] (ia, la, zRA pl dr cp cw rp) Kc := by
  have fin := zfin hI hm
  obtain ⟨i1, i2, i3, i4, i5, i6, i7, p, N, L, T, D, W, r, hC, hM, hDe, hNo⟩ := hI
  have hN6 : N ≤ 6 := hC.2.1.2.1
  have hT12 : T ≤ 12 := hC.2.1.2.2.2.2.2.1
  have hR := hC.2.2.1
  have o0 : ∀ c, c ≠ 127 → zu ia 127 0 0 c = ia c := fun c h => zu_o h
  rw [e98, b98_0, S_isL i1 hC, kS, b98_5]
  rcases zpers x1 (N := T) (by omega) with h | ⟨h, hh, rfl, hn⟩
  · rw [if_pos h, if_pos rfl]
    refine hc _ _ ?_
    rw [e206, b206_0, o0 129 (by decide), hR.2.2.1]
    by_cases h0 : x1 < 0
    · rw [if_pos h0]; exact fin _ _ _ _ _ _ _ (zFr_0 zFr_r) rfl
    · have h1 : nI T ≤ x1 := h.elim (fun q => absurd q h0) id
      rw [if_neg h0, if_pos h1]; exact fin _ _ _ _ _ _ _ (zFr_0 zFr_r) rfl
  · have m0 : ∀ K : Option Value → zHP → Prop, zWM (d + 400) 206 [.ref 127, .int (nI h), .int x2] (ia, la, zRA pl dr cp cw rp) K = (if x2 < 0 then K (some (.int (-1))) (zu ia 127 0 0, la, zRA pl dr cp cw rp) else if x2 ≤ 999999 then (if ¬ W 6 h = 0 then zWP (d + 400) 206 49 [some (.ref 127), some (.int (nI h)), some (.int x2), some (.int 0), some (.int 0), none, none] [] (zu ia 127 0 0, la, zRA pl dr cp cw rp) K else K (some (.int (-2))) (zu ia 127 0 0, la, zRA pl dr cp cw rp)) else K (some (.int (-1))) (zu ia 127 0 0, la, zRA pl dr cp cw rp)) := by
      intro K
      rw [e206, b206_0, o0 129 (by decide), hR.2.2.1, if_neg (fun q => hn (Or.inl q)), if_neg (fun q => hn (Or.inr q)), zg (by omega) (by omega), zcln (by omega), o0 157 (by decide), zC_157 hC (by omega)]
    rw [if_neg hn, if_neg (by decide), zg (by omega) (by omega), zcln (by omega), show ia 78 = W 6 from zC_W hC (g := 6) (by omega)]
    by_cases a0 : x2 < 0
    · rw [if_pos a0]
      refine hc _ _ ?_
      rw [m0, if_pos a0]
      exact fin _ _ _ _ _ _ _ (zFr_0 zFr_r) rfl
    rw [if_neg a0]
    by_cases a1 : x2 ≤ 999999
    · rw [if_pos a1]
      by_cases a2 : W 6 h = 0
      · rw [if_neg (fun q => q a2)]
        refine hc _ _ ?_
        rw [m0, if_neg a0, if_pos a1, if_neg (fun q => q a2)]
        exact fin _ _ _ _ _ _ _ (zFr_0 zFr_r) rfl
      · rw [if_pos a2]
        have ds : ∀ i, i < N → zds (ia 81) (ia (pl + 2)) (3 * h) (3 * i) = zds (W 9) (p 2) (3 * h) (3 * i) := fun i _ => by rw [hC.1 2 (by omega), show ia 81 = W 9 from zC_W hC (g := 9) (by omega)]
        refine Eq.mpr (zlpE (fun i => zWP (d + 400) 98 40 [some (.ref 0), some (.int (nI h)), some (.int x2), some (.int (zit (zbS (fun i => decide (¬ x2 < zds (W 9) (p 2) (3 * h) (3 * i)))) i 0)), some (.int (nI i))] [] (ia, la, zRA pl dr cp cw rp) Kc) N ?_) ?_
        · intro i hi
          show zWP (d + 400) 98 40 [some (.ref 0), some (.int (nI h)), some (.int x2), some (.int (zit (zbS (fun i => decide (¬ x2 < zds (W 9) (p 2) (3 * h) (3 * i)))) i 0)), some (.int (nI i))] [] (ia, la, zRA pl dr cp cw rp) Kc = zWP (d + 400) 98 40 [some (.ref 0), some (.int (nI h)), some (.int x2), some (.int (zbS (fun i => decide (¬ x2 < zds (W 9) (p 2) (3 * h) (3 * i))) i (zit (zbS (fun i => decide (¬ x2 < zds (W 9) (p 2) (3 * h) (3 * i)))) i 0))), some (.int (nI (i + 1)))] [] (ia, la, zRA pl dr cp cw rp) Kc
          generalize zit (zbS (fun i => decide (¬ x2 < zds (W 9) (p 2) (3 * h) (3 * i)))) i 0 = a
          rw [b98_40 i1, zC_N hC, if_neg (nI_nle1 hi (by omega)), S_dist i1 rfl (show 3 * h + 2 < 36 by omega) (by decide) (by omega), kS, b98_66, ds i hi, ns]
          unfold zbS
          by_cases c : x2 < zds (W 9) (p 2) (3 * h) (3 * i)
          · rw [if_pos c, if_neg (znd (fun q => q c))]
          · rw [if_neg c, if_pos (decide_eq_true c)]
        rw [b98_40 i1, zC_N hC, if_pos (nI_le1 (by omega) (by omega))]
        refine hc _ _ ?_
        rw [m0, if_neg a0, if_pos a1, if_pos a2]
        have lp : ∀ m i a5 a6 (K : Option Value → zHP → Prop), i + m = N → zWP (d + 400) 206 49 [some (.ref 127), some (.int (nI h)), some (.int x2), some (.int (zit (zbS (fun i => decide (¬ x2 < zds (W 9) (p 2) (3 * h) (3 * i)))) i 0)), some (.int (nI i)), a5, a6] [] (zu ia 127 0 0, la, zRA pl dr cp cw rp) K = K (some (.int (zit (zbS (fun i => decide (¬ x2 < zds (W 9) (p 2) (3 * h) (3 * i)))) N 0))) (zu ia 127 0 0, la, zRA pl dr cp cw rp) := by
          intro m
          induction m with
          | zero =>
            intro i a5 a6 K hi
            rw [b206_49, o0 129 (by decide), hR.1, if_pos (nI_le1 (by omega) (by omega)), show i = N by omega]
          | succ m ih =>
            intro i a5 a6 K hi
            have ih := fun a5 a6 => ih (i + 1) a5 a6 K (by omega)
            rw [show zit (zbS (fun i => decide (¬ x2 < zds (W 9) (p 2) (3 * h) (3 * i)))) (i + 1) (0 : Int32) = zbS (fun i => decide (¬ x2 < zds (W 9) (p 2) (3 * h) (3 * i))) i (zit (zbS (fun i => decide (¬ x2 < zds (W 9) (p 2) (3 * h) (3 * i)))) i 0) from rfl] at ih
            generalize zit (zbS (fun i => decide (¬ x2 < zds (W 9) (p 2) (3 * h) (3 * i)))) i 0 = a at ih ⊢
            have w9 : ∀ j, j < 3 → ia 158 (3 * h + j) = W 9 (3 * h + j) := fun j hj => by rw [zC_158 hC (by omega), show (3 * h + j) / 3 = h by omega, if_neg a2]
            have w2 : ∀ j, j < 3 → ia 131 (3 * i + j) = p 2 (3 * i + j) := fun j hj => hR.2.2.2.2.2.2.2.2.1 _ (by omega)
            rw [b206_49, o0 129 (by decide), hR.1, if_neg (nI_nle1 (by omega) (by omega))]
            rw [b206_66, if_neg (by decide), m3a, m3a, zg (by omega) (by omega), zg (by omega) (by omega), zcln (by omega), zcln (by omega), i01, o0 158 (by decide), o0 131 (by decide), show ia 158 (3 * h) = W 9 (3 * h) from w9 0 (by omega), show ia 131 (3 * i) = p 2 (3 * i) from w2 0 (by omega)]
            rw [b206_66, if_neg (by decide), m3b, m3b, zg (by omega) (by omega), zg (by omega) (by omega), zcln (by omega), zcln (by omega), i11, o0 158 (by decide), o0 131 (by decide), w9 1 (by omega), w2 1 (by omega)]
            rw [b206_66, if_neg (by decide), m3c, m3c, zg (by omega) (by omega), zg (by omega) (by omega), zcln (by omega), zcln (by omega), i21, o0 158 (by decide), o0 131 (by decide), w9 2 (by omega), w2 2 (by omega)]
            rw [b206_66, if_pos (by decide), ns]
            have e : ∀ A B : Prop, (if x2 < zds (W 9) (p 2) (3 * h) (3 * i) then A else B) = (if x2 < zds (W 9) (p 2) (3 * h) (3 * i) then A else B) := fun _ _ => rfl
            unfold zbS at ih
            by_cases c : x2 < zds (W 9) (p 2) (3 * h) (3 * i)
            · rw [if_neg (znd (fun q => q c))] at ih
              refine Eq.trans (if_pos c) ?_
              rw [Int32.or_zero]
              exact ih _ _
            · rw [if_pos (decide_eq_true c)] at ih
              refine Eq.trans (if_neg c) ?_
              exact ih _ _
        refine Eq.mpr (lp N 0 none none _ (by omega)) ?_
        exact fin _ _ _ _ _ _ _ (zFr_0 zFr_r) rfl
    · rw [if_neg a1]
      refine hc _ _ ?_
      rw [m0, if_neg a0, if_neg a1]
      exact fin _ _ _ _ _ _ _ (zFr_0 zFr_r) rfl
