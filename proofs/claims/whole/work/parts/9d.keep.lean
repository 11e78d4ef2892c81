/-! what every run keeps: the script; of what sort an answer is -/
theorem z9ne {a t : Nat} (h : zkd a = t) (ht : t ≠ 999) : (900 : Nat) ≠ a ∧ (901 : Nat) ≠ a := zne900 h ht
theorem zu9 {f : Nat → Nat → Int32} {a k t : Nat} {x : Int32} (h : zkd a = t) (ht : t ≠ 999) : zu f a k x 900 = f 900 ∧ zu f a k x 901 = f 901 := ⟨zu_o (zne900 h ht).1, zu_o (zne900 h ht).2⟩
def zS9 (hp hp' : zHP) : Prop := hp'.1 900 = hp.1 900 ∧ hp'.1 901 = hp.1 901
theorem zS9_r (hp : zHP) : zS9 hp hp := ⟨rfl, rfl⟩
theorem zS9_t {a b c : zHP} (h : zS9 a b) (h2 : zS9 b c) : zS9 a c := ⟨h2.1.trans h.1, h2.2.trans h.2⟩
section ZS
variable {c pc i k w : Nat} {ls : zLs} {st : List Value} {hp : zHP} {r : Nat × zLs × List Value × zHP}
theorem zld_9 (h : zld pc ls st hp i w = some r) : r.2.2.2 = hp := by
  unfold zld at h
  split at h
  · split at h
    · cases h; rfl
    · cases h
  · cases h
theorem zsto_9 (h : zsto pc ls st hp i w = some r) : r.2.2.2 = hp := by
  unfold zsto at h
  split at h
  · split at h
    · cases h; rfl
    · cases h
  · cases h
theorem zstl_9 (h : zstl pc ls st hp i = some r) : r.2.2.2 = hp := by
  unfold zstl at h
  split at h
  · split at h
    · cases h; rfl
    · cases h
  · cases h
theorem zi2_9 {f : Int32 → Int32 → Int32} (h : zi2 pc ls st hp f = some r) : r.2.2.2 = hp := by
  unfold zi2 at h
  split at h
  · cases h; rfl
  · cases h
theorem zl2_9 {f : Int64 → Int64 → Int64} (h : zl2 pc ls st hp f = some r) : r.2.2.2 = hp := by
  unfold zl2 at h
  split at h
  · cases h; rfl
  · cases h
theorem zi1_9 {f : Int32 → Value} (h : zi1 pc ls st hp f = some r) : r.2.2.2 = hp := by
  unfold zi1 at h
  split at h
  · cases h; rfl
  · cases h
theorem zl1_9 {f : Int64 → Value} (h : zl1 pc ls st hp f = some r) : r.2.2.2 = hp := by
  unfold zl1 at h
  split at h
  · cases h; rfl
  · cases h
theorem ztg_9 {off : Int} (h : ztg pc off ls st hp = some r) : r.2.2.2 = hp := by
  unfold ztg at h
  split at h
  · cases h; rfl
  · cases h
theorem zget_9 {o ci j : Nat} (h : zget pc ls st hp o ci j = some r) : r.2.2.2 = hp := by
  unfold zget at h
  split at h
  · split at h
    · cases h; rfl
    · cases h; rfl
    · cases h; rfl
    · split at h
      · cases h; rfl
      · cases h
    · cases h
  · cases h
theorem zput_9 {o ci j : Nat} {v : Value} (hci : ci < 100) (h : zput pc ls st hp v o ci j = some r) : zS9 hp r.2.2.2 := by
  unfold zput at h
  split at h
  next hk =>
    have z := fun x => zu9 (f := hp.1) (k := j) (x := x) hk.1 (by omega)
    split at h
    · cases h; exact z _
    · split at h
      · cases h; exact z _
      · cases h
    · cases h; exact ⟨rfl, rfl⟩
    · cases h; exact ⟨rfl, rfl⟩
    · cases h
  · cases h
theorem zS9_e {hp' : zHP} (h : hp' = hp) : zS9 hp hp' := by rw [h]; exact zS9_r hp
theorem zfl_c {ci j : Nat} (h : zfl c k = some (ci, j)) : ci < 100 := by
  have : ∀ q ∈ zflT, q.2.2.1 < 100 := by decide +kernel
  unfold zfl at h
  obtain ⟨q, hq, e⟩ := Option.map_eq_some_iff.mp h
  cases e
  exact this q (List.mem_of_find?_eq_some hq)
theorem zact_9 {ins : Instr} (h : zact c pc ins ls st hp = some r) : zS9 hp r.2.2.2 := by
  unfold zact at h
  split at h
  all_goals first
    | (cases h <;> exact zS9_r hp)
    | exact zS9_e (zld_9 h)
    | exact zS9_e (zsto_9 h)
    | exact zS9_e (zstl_9 h)
    | exact zS9_e (zi2_9 h)
    | exact zS9_e (zl2_9 h)
    | exact zS9_e (zi1_9 h)
    | exact zS9_e (zl1_9 h)
    | exact zS9_e (ztg_9 h)
    | (split at h
       all_goals first
         | (cases h <;> exact zS9_r hp)
         | exact zS9_e (ztg_9 h)
         | exact zS9_e (zget_9 h)
         | (exact zput_9 (zfl_c (by assumption)) h)
         | (split at h
            all_goals first
              | (cases h <;> exact zS9_r hp)
              | exact zS9_e (ztg_9 h)
              | (cases h <;> exact zu9 (by assumption) (by decide))
              | (rename_i hk; cases h <;> exact zu9 hk.1 (by decide))
              | (rename_i hk; cases h <;> exact ⟨rfl, rfl⟩)
              | (rename_i hk; cases h <;> rcases hk.1 with hk | hk <;> exact zu9 hk (by decide))
              | (split at h
                 all_goals first
                   | (cases h <;> exact zS9_r hp)
                   | exact zS9_e (ztg_9 h))))
theorem zbi_9 {y : Nat} {as : List Value} {q : Option Value × zHP} (h : zbi y as hp = some q) : zS9 hp q.2 := by
  unfold zbi at h
  split at h
  · split at h
    · cases h; exact zS9_r hp
    · cases h
  split at h
  · split at h
    · split at h
      · cases h; exact zS9_r hp
      · cases h
    · cases h
  split at h
  · split at h
    · split at h
      next hk =>
        cases h
        have z := zne900 hk.2.1 (by decide)
        refine ⟨?_, ?_⟩
        · show va_up hp.1 _ _ 900 = _; unfold va_up; rw [if_neg z.1]
        · show va_up hp.1 _ _ 901 = _; unfold va_up; rw [if_neg z.2]
      · cases h
    · cases h
  split at h
  · split at h
    · cases h; exact zS9_r hp
    · cases h
  split at h
  · split at h
    · cases h; exact zS9_r hp
    · cases h
  split at h
  · split at h
    · cases h; exact zS9_r hp
    · cases h
  split at h
  · split at h
    · cases h; exact zS9_r hp
    · cases h
  split at h
  · split at h
    · cases h; exact zS9_r hp
    · cases h
  split at h
  · split at h
    · cases h; exact zS9_r hp
    · cases h
  · cases h
end ZS
theorem zWn_scr : ∀ (n : Nat) {d M pc : Nat} {ls : zLs} {st : List Value} {hp : zHP} {K : Option Value → zHP → Prop}, zWn n d M pc ls st hp K → zWn n d M pc ls st hp (fun v hp' => K v hp' ∧ zS9 hp hp') := by
  intro n
  induction n with
  | zero => intro d M pc ls st hp K h; exact h.elim
  | succ n ih =>
    intro d M pc ls st hp K h
    unfold zWn at h ⊢
    split at h
    next => exact h.elim
    next mi hm =>
      split at h
      next v hv => (try rw [hv]); exact ⟨h, zS9_r hp⟩
      next hv =>
        (try rw [hv])
        (try dsimp only)
        split at h
        next hd => exact h.elim
        next i len hd =>
          (try rw [hd])
          (try dsimp only)
          split at h
          next hl =>
            (try rw [if_pos hl])
            split at h
            next r ha => (try rw [ha]); exact zWn_mono n (fun v hp' q => ⟨q.1, zS9_t (zact_9 ha) q.2⟩) (Nat.le_refl _) (ih h)
            next ha =>
              (try rw [ha])
              (try dsimp only)
              split at h
              next v hr => (try rw [hr]); exact ⟨h, zS9_r hp⟩
              next hr =>
                (try rw [hr])
                (try dsimp only)
                split at h
                next => exact h.elim
                next q hq =>
                  (try rw [hq])
                  (try dsimp only)
                  split at h
                  next w hw => (try rw [hw]); exact ⟨h.1, zWn_mono n (fun v hp' q => ⟨q.1, zS9_t (zbi_9 hw) q.2⟩) (Nat.le_refl _) (ih h.2)⟩
                  next hw =>
                    (try rw [hw])
                    (try dsimp only)
                    split at h
                    next d' my hmy =>
                      (try rw [hmy])
                      exact ⟨h.1, h.2.1, zWn_mono n (fun v hp' q => zWn_mono n (fun v2 hp2 q2 => ⟨q2.1, zS9_t q.2 q2.2⟩) (Nat.le_refl _) (ih q.1)) (Nat.le_refl _) (ih h.2.2)⟩
                    next => exact h.elim
          next => exact h.elim
theorem zWM_scr {d y : Nat} {as : List Value} {hp : zHP} {K : Option Value → zHP → Prop} (h : zWM d y as hp K) : zWM d y as hp (fun v hp' => K v hp' ∧ zS9 hp hp') := by
  obtain ⟨my, h1, n, h⟩ := h
  exact ⟨my, h1, n, zWn_scr n h⟩
/-- of what sort an answer is -/
def zrok (ret : Option FieldType) (v : Option Value) : Prop := match ret with
  | some .int => ∃ x, v = some (.int x)
  | some .boolean => ∃ x, v = some (.int x)
  | some .long => ∃ x, v = some (.long x)
  | _ => True
theorem zrt_ok {ret : Option FieldType} {i : Instr} {st : List Value} {v : Option Value} (h : zrt ret i st = some v) : zrok ret v := by
  unfold zrt at h
  split at h
  · split at h
    · split at h
      · cases h; exact ⟨_, rfl⟩
      · split at h
        · cases h; exact ⟨_, rfl⟩
        · cases h
      · cases h
    · cases h
  · split at h
    · split at h
      · cases h; exact ⟨_, rfl⟩
      · cases h
    · cases h
  · split at h
    · split at h
      · cases h; trivial
      · cases h
    · cases h
  · cases h
theorem zWn_ty {M : Nat} {mi : zMI} (hM : M < 241) (hmi : zmt[M]? = some mi) : ∀ (n : Nat) {d pc : Nat} {ls : zLs} {st : List Value} {hp : zHP} {K : Option Value → zHP → Prop}, zWn n d M pc ls st hp K → zWn n d M pc ls st hp (fun v hp' => K v hp' ∧ zrok mi.2.2.2.1 v) := by
  intro n
  induction n with
  | zero => intro d pc ls st hp K h; exact h.elim
  | succ n ih =>
    intro d pc ls st hp K h
    have hx : zexit M pc ls st = none := zxn hM
    unfold zWn at h ⊢
    rw [hmi] at h ⊢
    dsimp only at h ⊢
    rw [hx] at h ⊢
    dsimp only at h ⊢
    split at h
    next hd => exact h.elim
    next i len hd =>
      (try rw [hd])
      (try dsimp only)
      split at h
      next hl =>
        (try rw [if_pos hl])
        split at h
        next r ha => (try rw [ha]); exact ih h
        next ha =>
          (try rw [ha])
          (try dsimp only)
          split at h
          next v hr => (try rw [hr]); exact ⟨h, zrt_ok hr⟩
          next hr =>
            (try rw [hr])
            (try dsimp only)
            split at h
            next => exact h.elim
            next q hq =>
              (try rw [hq])
              (try dsimp only)
              split at h
              next w hw => (try rw [hw]); exact ⟨h.1, ih h.2⟩
              next hw =>
                (try rw [hw])
                (try dsimp only)
                split at h
                next d' my hmy =>
                  (try rw [hmy])
                  exact ⟨h.1, h.2.1, zWn_mono n (fun v hp' q => ih q) (Nat.le_refl _) h.2.2⟩
                next => exact h.elim
      next => exact h.elim
theorem zWM_ty {d y : Nat} {as : List Value} {hp : zHP} {K : Option Value → zHP → Prop} {my : zMI} (hy : y < 241) (hmy : zmt[y]? = some my) (h : zWM d y as hp K) : zWM d y as hp (fun v hp' => K v hp' ∧ zrok my.2.2.2.1 v) := by
  obtain ⟨my2, h1, n, h⟩ := h
  exact ⟨my2, h1, n, zWn_ty hy hmy n h⟩
