/-! runs without their length: equations a step -/
theorem zWn_mono : ∀ (n : Nat) {d M pc : Nat} {ls : zLs} {st : List Value} {hp : zHP} {K K' : Option Value → zHP → Prop}, (∀ v hp, K v hp → K' v hp) → ∀ {n' : Nat}, n ≤ n' → zWn n d M pc ls st hp K → zWn n' d M pc ls st hp K' := by
  intro n
  induction n with
  | zero => intro d M pc ls st hp K K' hK n' hn h; exact h.elim
  | succ n ih =>
    intro d M pc ls st hp K K' hK n' hn h
    obtain ⟨n2, rfl⟩ : ∃ n2, n' = n2 + 1 := ⟨n' - 1, by omega⟩
    have hn2 : n ≤ n2 := by omega
    unfold zWn at h ⊢
    split
    next hm => rw [hm] at h; exact h
    next mi hm =>
      rw [hm] at h
      dsimp only at h
      split at h
      next v hv => (try rw [hv]); exact hK _ _ h
      next hv =>
        (try rw [hv])
        (try dsimp only)
        split at h
        next hd => exact h.elim
        next i len hd =>
          (try rw [hd])
          (try dsimp only)
          split at h
          next hl =>
            (try rw [if_pos hl])
            split at h
            next r ha => (try rw [ha]); exact ih hK hn2 h
            next ha =>
              (try rw [ha])
              (try dsimp only)
              split at h
              next v hr => (try rw [hr]); exact hK _ _ h
              next hr =>
                (try rw [hr])
                (try dsimp only)
                split at h
                next => exact h.elim
                next q hq =>
                  (try rw [hq])
                  (try dsimp only)
                  split at h
                  next w hw => (try rw [hw]); exact ⟨h.1, ih hK hn2 h.2⟩
                  next hw =>
                    (try rw [hw])
                    (try dsimp only)
                    split at h
                    next d' my hmy =>
                      (try rw [hmy])
                      exact ⟨h.1, h.2.1, ih (fun v hp' h' => ih hK hn2 h') hn2 h.2.2⟩
                    next => exact h.elim
          next => exact h.elim
/-- a run ends in one way -/
theorem zWn_end : ∀ (n : Nat) {d M pc : Nat} {ls : zLs} {st : List Value} {hp : zHP} {K : Option Value → zHP → Prop}, zWn n d M pc ls st hp K → ∃ v hp', K v hp' ∧ ∀ K' : Option Value → zHP → Prop, K' v hp' → zWn n d M pc ls st hp K' := by
  intro n
  induction n with
  | zero => intro d M pc ls st hp K h; exact h.elim
  | succ n ih =>
    intro d M pc ls st hp K h
    have h0 := h
    unfold zWn at h
    split at h
    next => exact h.elim
    next mi hm =>
      split at h
      next v hv => exact ⟨v, hp, h, fun K' h' => by unfold zWn; rw [hm]; dsimp only; rw [hv]; exact h'⟩
      next hv =>
        split at h
        next => exact h.elim
        next i len hd =>
          split at h
          next hl =>
            split at h
            next r ha =>
              obtain ⟨v, hp', h1, h2⟩ := ih h
              exact ⟨v, hp', h1, fun K' h' => by unfold zWn; rw [hm]; dsimp only; rw [hv]; dsimp only; rw [hd]; dsimp only; rw [if_pos hl, ha]; exact h2 K' h'⟩
            next ha =>
              split at h
              next v hr => exact ⟨v, hp, h, fun K' h' => by unfold zWn; rw [hm]; dsimp only; rw [hv]; dsimp only; rw [hd]; dsimp only; rw [if_pos hl, ha]; dsimp only; rw [hr]; exact h'⟩
              next hr =>
                split at h
                next => exact h.elim
                next q hq =>
                  split at h
                  next w hw =>
                    obtain ⟨v, hp', h1, h2⟩ := ih h.2
                    exact ⟨v, hp', h1, fun K' h' => by unfold zWn; rw [hm]; dsimp only; rw [hv]; dsimp only; rw [hd]; dsimp only; rw [if_pos hl, ha]; dsimp only; rw [hr]; dsimp only; rw [hq]; dsimp only; rw [hw]; exact ⟨h.1, h2 K' h'⟩⟩
                  next hw =>
                    split at h
                    next d' my hmy =>
                      obtain ⟨v1, hp1, h1, h2⟩ := ih h.2.2
                      obtain ⟨v2, hp2, h3, h4⟩ := ih h1
                      exact ⟨v2, hp2, h3, fun K' h' => by unfold zWn; rw [hm]; dsimp only; rw [hv]; dsimp only; rw [hd]; dsimp only; rw [if_pos hl, ha]; dsimp only; rw [hr]; dsimp only; rw [hq]; dsimp only; rw [hw]; dsimp only; rw [hmy]; exact ⟨h.1, h.2.1, h2 _ (h4 K' h')⟩⟩
                    next => exact h.elim
          next => exact h.elim
def zWP (d M pc : Nat) (ls : zLs) (st : List Value) (hp : zHP) (K : Option Value → zHP → Prop) : Prop := ∃ n, zWn n d M pc ls st hp K
/-- a method, called -/
def zWM (d y : Nat) (as : List Value) (hp : zHP) (K : Option Value → zHP → Prop) : Prop := ∃ my, zmt[y]? = some my ∧ zWP d y 0 (zent my.2.2.1 as) [] hp K
/-- what goes on behind a call -/
def zK (d M pc : Nat) (ls : zLs) (rest : List Value) (K : Option Value → zHP → Prop) : Option Value → zHP → Prop := fun v hp => zWP d M pc ls (v.toList ++ rest) hp K
theorem zWP_mono {d M pc : Nat} {ls : zLs} {st : List Value} {hp : zHP} {K K' : Option Value → zHP → Prop} (hK : ∀ v hp, K v hp → K' v hp) (h : zWP d M pc ls st hp K) : zWP d M pc ls st hp K' := by
  obtain ⟨n, h⟩ := h
  exact ⟨n, zWn_mono n hK (Nat.le_refl _) h⟩
theorem zWM_mono {d y : Nat} {as : List Value} {hp : zHP} {K K' : Option Value → zHP → Prop} (hK : ∀ v hp, K v hp → K' v hp) (h : zWM d y as hp K) : zWM d y as hp K' := by
  obtain ⟨my, h1, h⟩ := h
  exact ⟨my, h1, zWP_mono hK h⟩
section ZE
variable {d M pc len : Nat} {ls : zLs} {st : List Value} {hp : zHP} {K : Option Value → zHP → Prop} {mi : zMI} {i : Instr}
theorem zE_act {r : Nat × zLs × List Value × zHP} (hm : zmt[M]? = some mi) (hx : zexit M pc ls st = none) (hd : decode mi.2.1 pc = .ok (i, len)) (hl : zlen i len = true) (ha : zact mi.2.2.2.2 pc i ls st hp = some r) : zWP d M pc ls st hp K = zWP d M r.1 r.2.1 r.2.2.1 r.2.2.2 K := by
  have key : ∀ n, zWn (n + 1) d M pc ls st hp K = zWn n d M r.1 r.2.1 r.2.2.1 r.2.2.2 K := by
    intro n
    rw [zWn]
    rw [hm]; dsimp only; rw [hx]; dsimp only; rw [hd]; dsimp only; rw [if_pos hl, ha]
  apply propext
  constructor
  · rintro ⟨n, h⟩
    cases n with
    | zero => exact h.elim
    | succ n => rw [key] at h; exact ⟨n, h⟩
  · rintro ⟨n, h⟩
    exact ⟨n + 1, by rw [key]; exact h⟩
theorem zE_ret {v : Option Value} (hm : zmt[M]? = some mi) (hx : zexit M pc ls st = none) (hd : decode mi.2.1 pc = .ok (i, len)) (hl : zlen i len = true) (ha : zact mi.2.2.2.2 pc i ls st hp = none) (hr : zrt mi.2.2.2.1 i st = some v) : zWP d M pc ls st hp K = K v hp := by
  have key : ∀ n, zWn (n + 1) d M pc ls st hp K = K v hp := by
    intro n
    rw [zWn]
    rw [hm]; dsimp only; rw [hx]; dsimp only; rw [hd]; dsimp only; rw [if_pos hl, ha]; dsimp only; rw [hr]
  apply propext
  constructor
  · rintro ⟨n, h⟩
    cases n with
    | zero => exact h.elim
    | succ n => rw [key] at h; exact h
  · intro h
    exact ⟨1, by rw [key]; exact h⟩
theorem zE_bi {q : Nat × List Value × List Value} {w : Option Value × zHP} (hm : zmt[M]? = some mi) (hx : zexit M pc ls st = none) (hd : decode mi.2.1 pc = .ok (i, len)) (hl : zlen i len = true) (ha : zact mi.2.2.2.2 pc i ls st hp = none) (hr : zrt mi.2.2.2.1 i st = none) (hq : zcx mi.2.2.2.2 i st = some q) (hw : zbi q.1 q.2.1 hp = some w) (h5 : 5 ≤ d) : zWP d M pc ls st hp K = zWP d M (pc + 3) ls (w.1.toList ++ q.2.2) w.2 K := by
  have key : ∀ n, zWn (n + 1) d M pc ls st hp K = (5 ≤ d ∧ zWn n d M (pc + 3) ls (w.1.toList ++ q.2.2) w.2 K) := by
    intro n
    rw [zWn]
    rw [hm]; dsimp only; rw [hx]; dsimp only; rw [hd]; dsimp only; rw [if_pos hl, ha]; dsimp only; rw [hr]; dsimp only; rw [hq]; dsimp only; rw [hw]
  apply propext
  constructor
  · rintro ⟨n, h⟩
    cases n with
    | zero => exact h.elim
    | succ n => rw [key] at h; exact ⟨n, h.2⟩
  · rintro ⟨n, h⟩
    exact ⟨n + 1, by rw [key]; exact ⟨h5, h⟩⟩
theorem zE_call {q : Nat × List Value × List Value} {my : zMI} (hm : zmt[M]? = some mi) (hx : zexit M pc ls st = none) (hd : decode mi.2.1 pc = .ok (i, len)) (hl : zlen i len = true) (ha : zact mi.2.2.2.2 pc i ls st hp = none) (hr : zrt mi.2.2.2.1 i st = none) (hq : zcx mi.2.2.2.2 i st = some q) (hy : q.1 < 241) (hmy : zmt[q.1]? = some my) (hlen : (zent my.2.2.1 q.2.1).length = my.2.2.1) : zWP (d + 1) M pc ls st hp K = zWM d q.1 q.2.1 hp (zK (d + 1) M (pc + 3) ls q.2.2 K) := by
  have key : ∀ n, zWn (n + 1) (d + 1) M pc ls st hp K = (q.1 < 241 ∧ (zent my.2.2.1 q.2.1).length = my.2.2.1 ∧ zWn n d q.1 0 (zent my.2.2.1 q.2.1) [] hp (fun v hp' => zWn n (d + 1) M (pc + 3) ls (v.toList ++ q.2.2) hp' K)) := by
    intro n
    rw [zWn]
    rw [hm]; dsimp only; rw [hx]; dsimp only; rw [hd]; dsimp only; rw [if_pos hl, ha]; dsimp only; rw [hr]; dsimp only; rw [hq]; dsimp only; rw [zbi_none hy]; dsimp only; rw [hmy]
  apply propext
  constructor
  · rintro ⟨n, h⟩
    cases n with
    | zero => exact h.elim
    | succ n =>
      rw [key] at h
      exact ⟨my, hmy, n, zWn_mono n (fun v hp' h' => ⟨n, h'⟩) (Nat.le_refl _) h.2.2⟩
  · rintro ⟨my2, hmy2, n, h⟩
    cases hmy.symm.trans hmy2
    obtain ⟨v, hp', ⟨n2, h1⟩, h2⟩ := zWn_end n h
    refine ⟨max n n2 + 1, ?_⟩
    rw [key]
    exact ⟨hy, hlen, zWn_mono n (fun _ _ h => h) (Nat.le_max_left _ _) (h2 _ (zWn_mono n2 (fun _ _ h => h) (Nat.le_max_right _ _) h1))⟩
end ZE
