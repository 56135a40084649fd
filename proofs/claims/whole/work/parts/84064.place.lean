/-! WHILE NOTHING IS AT FAULT, THE PLACE IS AS IT WAS (the reference) -/
def kF3 (c : Int) (s : im_S) : Prop := s.1 582 2 = 0 → s.1 582 3 = c
theorem kF3_pf {c x : Int} {s : im_S} {f : Nat} (h : kF3 c s) (h2 : f ≠ 2) (h3 : f ≠ 3) : kF3 c (cpf s 582 f x) := fun z => by
  rw [cpf_ne (by omega)] at z ⊢
  exact h z
theorem ploop_i {α : Type} {B : (α → Prop) → α → Prop} {a : α} (I : α → Prop) (h0 : I a) (hs : ∀ a, I a → B I a) : ploop B a := ⟨I, h0, hs⟩
theorem kF3_pa {c i x : Int} {s : im_S} {a : Nat} (h : kF3 c s) : kF3 c (cpa s a i x) := h
theorem kf_isDigit10 {c0 : Int} {l0 : Int} {s : im_S} {Q : Int → im_S → Prop} (h : kF3 c0 s) (hQ : ∀ z s', kF3 c0 s' → Q z s') : C_isDigit10 l0 s Q := by
  unfold C_isDigit10
  repeat' first
    | assumption
    | with_reducible refine kF3_pa ?_
    | with_reducible refine kF3_pf ?_ (by decide) (by decide)
    | with_reducible refine hQ _ _ ?_
    | with_reducible refine And.intro ?_ ?_
    | with_reducible refine ploop_i (fun a => kF3 c0 a) ?_ ?_
    | with_reducible refine ploop_i (fun a => kF3 c0 a.2) ?_ ?_
    | with_reducible refine ploop_i (fun a => kF3 c0 a.2.2) ?_ ?_
    | with_reducible refine ploop_i (fun a => kF3 c0 a.2.2.2) ?_ ?_
    | with_reducible refine ploop_i (fun a => kF3 c0 a.2.2.2.2) ?_ ?_
    | rintro _ rfl
    | intro _
    | dsimp only
theorem kf_isToken10 {c0 : Int} {l0 : Int} {s : im_S} {Q : Int → im_S → Prop} (h : kF3 c0 s) (hQ : ∀ z s', kF3 c0 s' → Q z s') : C_isToken10 l0 s Q := by
  unfold C_isToken10
  repeat' first
    | assumption
    | with_reducible refine kF3_pa ?_
    | with_reducible refine kF3_pf ?_ (by decide) (by decide)
    | with_reducible refine hQ _ _ ?_
    | with_reducible refine And.intro ?_ ?_
    | with_reducible refine kf_isDigit10 (c0 := c0) ?_ (fun z s' h' => ?_)
    | with_reducible refine ploop_i (fun a => kF3 c0 a) ?_ ?_
    | with_reducible refine ploop_i (fun a => kF3 c0 a.2) ?_ ?_
    | with_reducible refine ploop_i (fun a => kF3 c0 a.2.2) ?_ ?_
    | with_reducible refine ploop_i (fun a => kF3 c0 a.2.2.2) ?_ ?_
    | with_reducible refine ploop_i (fun a => kF3 c0 a.2.2.2.2) ?_ ?_
    | rintro _ rfl
    | intro _
    | unfold C_isToken10_102
    | unfold C_isToken10_97
    | dsimp only
theorem kf_good10 {c0 : Int}  {s : im_S} {Q : Int → im_S → Prop} (h : kF3 c0 s) (hQ : ∀ z s', kF3 c0 s' → Q z s') : C_good10  s Q := by
  unfold C_good10
  repeat' first
    | assumption
    | with_reducible refine kF3_pa ?_
    | with_reducible refine kF3_pf ?_ (by decide) (by decide)
    | with_reducible refine hQ _ _ ?_
    | with_reducible refine And.intro ?_ ?_
    | with_reducible refine kf_isDigit10 (c0 := c0) ?_ (fun z s' h' => ?_)
    | with_reducible refine kf_isToken10 (c0 := c0) ?_ (fun z s' h' => ?_)
    | with_reducible refine ploop_i (fun a => kF3 c0 a) ?_ ?_
    | with_reducible refine ploop_i (fun a => kF3 c0 a.2) ?_ ?_
    | with_reducible refine ploop_i (fun a => kF3 c0 a.2.2) ?_ ?_
    | with_reducible refine ploop_i (fun a => kF3 c0 a.2.2.2) ?_ ?_
    | with_reducible refine ploop_i (fun a => kF3 c0 a.2.2.2.2) ?_ ?_
    | rintro _ rfl
    | intro _
    | dsimp only
theorem kf_fail10 {c0 : Int} {l1 : Int} {l2 : Int} {s : im_S} {Q : im_S → Prop} (h : kF3 c0 s) (hl : l1 ≠ 0) (hQ : ∀ s', kF3 c0 s' → Q s') : C_fail10 l1 l2 s Q := by
  refine ⟨fun _ => hQ s h, fun _ s1 e1 s2 e2 => hQ s2 (fun z => ?_)⟩
  rw [e2, cpf_ne (by omega), e1, cpf_same] at z
  exact absurd z hl
theorem kf_peek10 {c0 : Int}  {s : im_S} {Q : Int → im_S → Prop} (h : kF3 c0 s) (hQ : ∀ z s', kF3 c0 s' → Q z s') : C_peek10  s Q := by
  unfold C_peek10
  repeat' first
    | assumption
    | with_reducible refine kF3_pa ?_
    | with_reducible refine kF3_pf ?_ (by decide) (by decide)
    | with_reducible refine hQ _ _ ?_
    | with_reducible refine And.intro ?_ ?_
    | with_reducible refine kf_isDigit10 (c0 := c0) ?_ (fun z s' h' => ?_)
    | with_reducible refine kf_isToken10 (c0 := c0) ?_ (fun z s' h' => ?_)
    | with_reducible refine kf_good10 (c0 := c0) ?_ (fun z s' h' => ?_)
    | with_reducible refine kf_fail10 (c0 := c0) ?_ (by first | decide | (split <;> decide)) (fun s' h' => ?_)
    | with_reducible refine ploop_i (fun a => kF3 c0 a) ?_ ?_
    | with_reducible refine ploop_i (fun a => kF3 c0 a.2) ?_ ?_
    | with_reducible refine ploop_i (fun a => kF3 c0 a.2.2) ?_ ?_
    | with_reducible refine ploop_i (fun a => kF3 c0 a.2.2.2) ?_ ?_
    | with_reducible refine ploop_i (fun a => kF3 c0 a.2.2.2.2) ?_ ?_
    | rintro _ rfl
    | intro _
    | unfold C_peek10_38
    | unfold C_peek10_0
    | dsimp only
theorem kf_cannot10 {c0 : Int}  {s : im_S} {Q : im_S → Prop} (h : kF3 c0 s) (hQ : ∀ s', kF3 c0 s' → Q s') : C_cannot10  s Q := by
  unfold C_cannot10
  repeat' first
    | assumption
    | with_reducible refine kF3_pa ?_
    | with_reducible refine kF3_pf ?_ (by decide) (by decide)
    | with_reducible refine hQ _ ?_
    | with_reducible refine And.intro ?_ ?_
    | with_reducible refine kf_isDigit10 (c0 := c0) ?_ (fun z s' h' => ?_)
    | with_reducible refine kf_isToken10 (c0 := c0) ?_ (fun z s' h' => ?_)
    | with_reducible refine kf_good10 (c0 := c0) ?_ (fun z s' h' => ?_)
    | with_reducible refine kf_fail10 (c0 := c0) ?_ (by first | decide | (split <;> decide)) (fun s' h' => ?_)
    | with_reducible refine kf_peek10 (c0 := c0) ?_ (fun z s' h' => ?_)
    | with_reducible refine ploop_i (fun a => kF3 c0 a) ?_ ?_
    | with_reducible refine ploop_i (fun a => kF3 c0 a.2) ?_ ?_
    | with_reducible refine ploop_i (fun a => kF3 c0 a.2.2) ?_ ?_
    | with_reducible refine ploop_i (fun a => kF3 c0 a.2.2.2) ?_ ?_
    | with_reducible refine ploop_i (fun a => kF3 c0 a.2.2.2.2) ?_ ?_
    | rintro _ rfl
    | intro _
    | unfold C_cannot10_23
    | dsimp only
theorem kf_number10 {c0 : Int}  {s : im_S} {Q : Int → im_S → Prop} (h : kF3 c0 s) (hQ : ∀ z s', kF3 c0 s' → Q z s') : C_number10  s Q := by
  unfold C_number10
  repeat' first
    | assumption
    | with_reducible refine kF3_pa ?_
    | with_reducible refine kF3_pf ?_ (by decide) (by decide)
    | with_reducible refine hQ _ _ ?_
    | with_reducible refine And.intro ?_ ?_
    | with_reducible refine kf_isDigit10 (c0 := c0) ?_ (fun z s' h' => ?_)
    | with_reducible refine kf_isToken10 (c0 := c0) ?_ (fun z s' h' => ?_)
    | with_reducible refine kf_good10 (c0 := c0) ?_ (fun z s' h' => ?_)
    | with_reducible refine kf_fail10 (c0 := c0) ?_ (by first | decide | (split <;> decide)) (fun s' h' => ?_)
    | with_reducible refine kf_peek10 (c0 := c0) ?_ (fun z s' h' => ?_)
    | with_reducible refine kf_cannot10 (c0 := c0) ?_ (fun s' h' => ?_)
    | with_reducible refine ploop_i (fun a => kF3 c0 a) ?_ ?_
    | with_reducible refine ploop_i (fun a => kF3 c0 a.2) ?_ ?_
    | with_reducible refine ploop_i (fun a => kF3 c0 a.2.2) ?_ ?_
    | with_reducible refine ploop_i (fun a => kF3 c0 a.2.2.2) ?_ ?_
    | with_reducible refine ploop_i (fun a => kF3 c0 a.2.2.2.2) ?_ ?_
    | rintro _ rfl
    | intro _
    | unfold C_number10_89
    | unfold C_number10_4
    | dsimp only
theorem kf_look10 {c0 : Int}  {s : im_S} {Q : im_S → Prop} (h : kF3 c0 s) (hQ : ∀ s', kF3 c0 s' → Q s') : C_look10  s Q := by
  unfold C_look10
  repeat' first
    | assumption
    | with_reducible refine kF3_pa ?_
    | with_reducible refine kF3_pf ?_ (by decide) (by decide)
    | with_reducible refine hQ _ ?_
    | with_reducible refine And.intro ?_ ?_
    | with_reducible refine kf_isDigit10 (c0 := c0) ?_ (fun z s' h' => ?_)
    | with_reducible refine kf_isToken10 (c0 := c0) ?_ (fun z s' h' => ?_)
    | with_reducible refine kf_good10 (c0 := c0) ?_ (fun z s' h' => ?_)
    | with_reducible refine kf_fail10 (c0 := c0) ?_ (by first | decide | (split <;> decide)) (fun s' h' => ?_)
    | with_reducible refine kf_peek10 (c0 := c0) ?_ (fun z s' h' => ?_)
    | with_reducible refine kf_cannot10 (c0 := c0) ?_ (fun s' h' => ?_)
    | with_reducible refine kf_number10 (c0 := c0) ?_ (fun z s' h' => ?_)
    | with_reducible refine ploop_i (fun a => kF3 c0 a) ?_ ?_
    | with_reducible refine ploop_i (fun a => kF3 c0 a.2) ?_ ?_
    | with_reducible refine ploop_i (fun a => kF3 c0 a.2.2) ?_ ?_
    | with_reducible refine ploop_i (fun a => kF3 c0 a.2.2.2) ?_ ?_
    | with_reducible refine ploop_i (fun a => kF3 c0 a.2.2.2.2) ?_ ?_
    | rintro _ rfl
    | intro _
    | unfold C_look10_26
    | dsimp only
theorem kf_isFine10 {c0 : Int} {l1 : Int} {s : im_S} {Q : Int → im_S → Prop} (h : kF3 c0 s) (hQ : ∀ z s', kF3 c0 s' → Q z s') : C_isFine10 l1 s Q := by
  unfold C_isFine10
  repeat' first
    | assumption
    | with_reducible refine kF3_pa ?_
    | with_reducible refine kF3_pf ?_ (by decide) (by decide)
    | with_reducible refine hQ _ _ ?_
    | with_reducible refine And.intro ?_ ?_
    | with_reducible refine kf_isDigit10 (c0 := c0) ?_ (fun z s' h' => ?_)
    | with_reducible refine kf_isToken10 (c0 := c0) ?_ (fun z s' h' => ?_)
    | with_reducible refine kf_good10 (c0 := c0) ?_ (fun z s' h' => ?_)
    | with_reducible refine kf_fail10 (c0 := c0) ?_ (by first | decide | (split <;> decide)) (fun s' h' => ?_)
    | with_reducible refine kf_peek10 (c0 := c0) ?_ (fun z s' h' => ?_)
    | with_reducible refine kf_cannot10 (c0 := c0) ?_ (fun s' h' => ?_)
    | with_reducible refine kf_number10 (c0 := c0) ?_ (fun z s' h' => ?_)
    | with_reducible refine kf_look10 (c0 := c0) ?_ (fun s' h' => ?_)
    | with_reducible refine ploop_i (fun a => kF3 c0 a) ?_ ?_
    | with_reducible refine ploop_i (fun a => kF3 c0 a.2) ?_ ?_
    | with_reducible refine ploop_i (fun a => kF3 c0 a.2.2) ?_ ?_
    | with_reducible refine ploop_i (fun a => kF3 c0 a.2.2.2) ?_ ?_
    | with_reducible refine ploop_i (fun a => kF3 c0 a.2.2.2.2) ?_ ?_
    | rintro _ rfl
    | intro _
    | dsimp only
theorem kf_multiply10 {c0 : Int} {l1 : Int} {s : im_S} {Q : im_S → Prop} (h : kF3 c0 s) (hQ : ∀ s', kF3 c0 s' → Q s') : C_multiply10 l1 s Q := by
  unfold C_multiply10
  repeat' first
    | assumption
    | with_reducible refine kF3_pa ?_
    | with_reducible refine kF3_pf ?_ (by decide) (by decide)
    | with_reducible refine hQ _ ?_
    | with_reducible refine And.intro ?_ ?_
    | with_reducible refine kf_isDigit10 (c0 := c0) ?_ (fun z s' h' => ?_)
    | with_reducible refine kf_isToken10 (c0 := c0) ?_ (fun z s' h' => ?_)
    | with_reducible refine kf_good10 (c0 := c0) ?_ (fun z s' h' => ?_)
    | with_reducible refine kf_fail10 (c0 := c0) ?_ (by first | decide | (split <;> decide)) (fun s' h' => ?_)
    | with_reducible refine kf_peek10 (c0 := c0) ?_ (fun z s' h' => ?_)
    | with_reducible refine kf_cannot10 (c0 := c0) ?_ (fun s' h' => ?_)
    | with_reducible refine kf_number10 (c0 := c0) ?_ (fun z s' h' => ?_)
    | with_reducible refine kf_look10 (c0 := c0) ?_ (fun s' h' => ?_)
    | with_reducible refine kf_isFine10 (c0 := c0) ?_ (fun z s' h' => ?_)
    | with_reducible refine ploop_i (fun a => kF3 c0 a) ?_ ?_
    | with_reducible refine ploop_i (fun a => kF3 c0 a.2) ?_ ?_
    | with_reducible refine ploop_i (fun a => kF3 c0 a.2.2) ?_ ?_
    | with_reducible refine ploop_i (fun a => kF3 c0 a.2.2.2) ?_ ?_
    | with_reducible refine ploop_i (fun a => kF3 c0 a.2.2.2.2) ?_ ?_
    | rintro _ rfl
    | intro _
    | unfold C_multiply10_202
    | unfold C_multiply10_176
    | unfold C_multiply10_144
    | unfold C_multiply10_130
    | unfold C_multiply10_100
    | unfold C_multiply10_31
    | unfold C_multiply10_23
    | unfold C_multiply10_2
    | dsimp only
theorem kf_raise10 {c0 : Int} {l1 : Int} {l2 : Int} {s : im_S} {Q : im_S → Prop} (h : kF3 c0 s) (hQ : ∀ s', kF3 c0 s' → Q s') : C_raise10 l1 l2 s Q := by
  unfold C_raise10
  repeat' first
    | assumption
    | with_reducible refine kF3_pa ?_
    | with_reducible refine kF3_pf ?_ (by decide) (by decide)
    | with_reducible refine hQ _ ?_
    | with_reducible refine And.intro ?_ ?_
    | with_reducible refine kf_isDigit10 (c0 := c0) ?_ (fun z s' h' => ?_)
    | with_reducible refine kf_isToken10 (c0 := c0) ?_ (fun z s' h' => ?_)
    | with_reducible refine kf_good10 (c0 := c0) ?_ (fun z s' h' => ?_)
    | with_reducible refine kf_fail10 (c0 := c0) ?_ (by first | decide | (split <;> decide)) (fun s' h' => ?_)
    | with_reducible refine kf_peek10 (c0 := c0) ?_ (fun z s' h' => ?_)
    | with_reducible refine kf_cannot10 (c0 := c0) ?_ (fun s' h' => ?_)
    | with_reducible refine kf_number10 (c0 := c0) ?_ (fun z s' h' => ?_)
    | with_reducible refine kf_look10 (c0 := c0) ?_ (fun s' h' => ?_)
    | with_reducible refine kf_isFine10 (c0 := c0) ?_ (fun z s' h' => ?_)
    | with_reducible refine kf_multiply10 (c0 := c0) ?_ (fun s' h' => ?_)
    | with_reducible refine ploop_i (fun a => kF3 c0 a) ?_ ?_
    | with_reducible refine ploop_i (fun a => kF3 c0 a.2) ?_ ?_
    | with_reducible refine ploop_i (fun a => kF3 c0 a.2.2) ?_ ?_
    | with_reducible refine ploop_i (fun a => kF3 c0 a.2.2.2) ?_ ?_
    | with_reducible refine ploop_i (fun a => kF3 c0 a.2.2.2.2) ?_ ?_
    | rintro _ rfl
    | intro _
    | unfold C_raise10_192
    | unfold C_raise10_189
    | unfold C_raise10_164
    | unfold C_raise10_113
    | unfold C_raise10_14
    | dsimp only
theorem kf_beginSum10 {c0 : Int}  {s : im_S} {Q : im_S → Prop} (h : kF3 c0 s) (hQ : ∀ s', kF3 c0 s' → Q s') : C_beginSum10  s Q := by
  unfold C_beginSum10
  repeat' first
    | assumption
    | with_reducible refine kF3_pa ?_
    | with_reducible refine kF3_pf ?_ (by decide) (by decide)
    | with_reducible refine hQ _ ?_
    | with_reducible refine And.intro ?_ ?_
    | with_reducible refine kf_isDigit10 (c0 := c0) ?_ (fun z s' h' => ?_)
    | with_reducible refine kf_isToken10 (c0 := c0) ?_ (fun z s' h' => ?_)
    | with_reducible refine kf_good10 (c0 := c0) ?_ (fun z s' h' => ?_)
    | with_reducible refine kf_fail10 (c0 := c0) ?_ (by first | decide | (split <;> decide)) (fun s' h' => ?_)
    | with_reducible refine kf_peek10 (c0 := c0) ?_ (fun z s' h' => ?_)
    | with_reducible refine kf_cannot10 (c0 := c0) ?_ (fun s' h' => ?_)
    | with_reducible refine kf_number10 (c0 := c0) ?_ (fun z s' h' => ?_)
    | with_reducible refine kf_look10 (c0 := c0) ?_ (fun s' h' => ?_)
    | with_reducible refine kf_isFine10 (c0 := c0) ?_ (fun z s' h' => ?_)
    | with_reducible refine kf_multiply10 (c0 := c0) ?_ (fun s' h' => ?_)
    | with_reducible refine kf_raise10 (c0 := c0) ?_ (fun s' h' => ?_)
    | with_reducible refine ploop_i (fun a => kF3 c0 a) ?_ ?_
    | with_reducible refine ploop_i (fun a => kF3 c0 a.2) ?_ ?_
    | with_reducible refine ploop_i (fun a => kF3 c0 a.2.2) ?_ ?_
    | with_reducible refine ploop_i (fun a => kF3 c0 a.2.2.2) ?_ ?_
    | with_reducible refine ploop_i (fun a => kF3 c0 a.2.2.2.2) ?_ ?_
    | rintro _ rfl
    | intro _
    | unfold C_beginSum10_88
    | unfold C_beginSum10_2
    | dsimp only
theorem kf_endBase10 {c0 : Int}  {s : im_S} {Q : im_S → Prop} (h : kF3 c0 s) (hQ : ∀ s', kF3 c0 s' → Q s') : C_endBase10  s Q := by
  unfold C_endBase10
  repeat' first
    | assumption
    | with_reducible refine kF3_pa ?_
    | with_reducible refine kF3_pf ?_ (by decide) (by decide)
    | with_reducible refine hQ _ ?_
    | with_reducible refine And.intro ?_ ?_
    | with_reducible refine kf_isDigit10 (c0 := c0) ?_ (fun z s' h' => ?_)
    | with_reducible refine kf_isToken10 (c0 := c0) ?_ (fun z s' h' => ?_)
    | with_reducible refine kf_good10 (c0 := c0) ?_ (fun z s' h' => ?_)
    | with_reducible refine kf_fail10 (c0 := c0) ?_ (by first | decide | (split <;> decide)) (fun s' h' => ?_)
    | with_reducible refine kf_peek10 (c0 := c0) ?_ (fun z s' h' => ?_)
    | with_reducible refine kf_cannot10 (c0 := c0) ?_ (fun s' h' => ?_)
    | with_reducible refine kf_number10 (c0 := c0) ?_ (fun z s' h' => ?_)
    | with_reducible refine kf_look10 (c0 := c0) ?_ (fun s' h' => ?_)
    | with_reducible refine kf_isFine10 (c0 := c0) ?_ (fun z s' h' => ?_)
    | with_reducible refine kf_multiply10 (c0 := c0) ?_ (fun s' h' => ?_)
    | with_reducible refine kf_raise10 (c0 := c0) ?_ (fun s' h' => ?_)
    | with_reducible refine kf_beginSum10 (c0 := c0) ?_ (fun s' h' => ?_)
    | with_reducible refine ploop_i (fun a => kF3 c0 a) ?_ ?_
    | with_reducible refine ploop_i (fun a => kF3 c0 a.2) ?_ ?_
    | with_reducible refine ploop_i (fun a => kF3 c0 a.2.2) ?_ ?_
    | with_reducible refine ploop_i (fun a => kF3 c0 a.2.2.2) ?_ ?_
    | with_reducible refine ploop_i (fun a => kF3 c0 a.2.2.2.2) ?_ ?_
    | rintro _ rfl
    | intro _
    | unfold C_endBase10_152
    | unfold C_endBase10_96
    | unfold C_endBase10_74
    | unfold C_endBase10_67
    | dsimp only
theorem kf_endTerm10 {c0 : Int}  {s : im_S} {Q : im_S → Prop} (h : kF3 c0 s) (hQ : ∀ s', kF3 c0 s' → Q s') : C_endTerm10  s Q := by
  unfold C_endTerm10
  repeat' first
    | assumption
    | with_reducible refine kF3_pa ?_
    | with_reducible refine kF3_pf ?_ (by decide) (by decide)
    | with_reducible refine hQ _ ?_
    | with_reducible refine And.intro ?_ ?_
    | with_reducible refine kf_isDigit10 (c0 := c0) ?_ (fun z s' h' => ?_)
    | with_reducible refine kf_isToken10 (c0 := c0) ?_ (fun z s' h' => ?_)
    | with_reducible refine kf_good10 (c0 := c0) ?_ (fun z s' h' => ?_)
    | with_reducible refine kf_fail10 (c0 := c0) ?_ (by first | decide | (split <;> decide)) (fun s' h' => ?_)
    | with_reducible refine kf_peek10 (c0 := c0) ?_ (fun z s' h' => ?_)
    | with_reducible refine kf_cannot10 (c0 := c0) ?_ (fun s' h' => ?_)
    | with_reducible refine kf_number10 (c0 := c0) ?_ (fun z s' h' => ?_)
    | with_reducible refine kf_look10 (c0 := c0) ?_ (fun s' h' => ?_)
    | with_reducible refine kf_isFine10 (c0 := c0) ?_ (fun z s' h' => ?_)
    | with_reducible refine kf_multiply10 (c0 := c0) ?_ (fun s' h' => ?_)
    | with_reducible refine kf_raise10 (c0 := c0) ?_ (fun s' h' => ?_)
    | with_reducible refine kf_beginSum10 (c0 := c0) ?_ (fun s' h' => ?_)
    | with_reducible refine kf_endBase10 (c0 := c0) ?_ (fun s' h' => ?_)
    | with_reducible refine ploop_i (fun a => kF3 c0 a) ?_ ?_
    | with_reducible refine ploop_i (fun a => kF3 c0 a.2) ?_ ?_
    | with_reducible refine ploop_i (fun a => kF3 c0 a.2.2) ?_ ?_
    | with_reducible refine ploop_i (fun a => kF3 c0 a.2.2.2) ?_ ?_
    | with_reducible refine ploop_i (fun a => kF3 c0 a.2.2.2.2) ?_ ?_
    | rintro _ rfl
    | intro _
    | unfold C_endTerm10_71
    | unfold C_endTerm10_2
    | dsimp only
theorem kf_endBracket10 {c0 : Int} {l1 : Int} {s : im_S} {Q : im_S → Prop} (h : kF3 c0 s) (hQ : ∀ s', kF3 c0 s' → Q s') : C_endBracket10 l1 s Q := by
  unfold C_endBracket10
  repeat' first
    | assumption
    | with_reducible refine kF3_pa ?_
    | with_reducible refine kF3_pf ?_ (by decide) (by decide)
    | with_reducible refine hQ _ ?_
    | with_reducible refine And.intro ?_ ?_
    | with_reducible refine kf_isDigit10 (c0 := c0) ?_ (fun z s' h' => ?_)
    | with_reducible refine kf_isToken10 (c0 := c0) ?_ (fun z s' h' => ?_)
    | with_reducible refine kf_good10 (c0 := c0) ?_ (fun z s' h' => ?_)
    | with_reducible refine kf_fail10 (c0 := c0) ?_ (by first | decide | (split <;> decide)) (fun s' h' => ?_)
    | with_reducible refine kf_peek10 (c0 := c0) ?_ (fun z s' h' => ?_)
    | with_reducible refine kf_cannot10 (c0 := c0) ?_ (fun s' h' => ?_)
    | with_reducible refine kf_number10 (c0 := c0) ?_ (fun z s' h' => ?_)
    | with_reducible refine kf_look10 (c0 := c0) ?_ (fun s' h' => ?_)
    | with_reducible refine kf_isFine10 (c0 := c0) ?_ (fun z s' h' => ?_)
    | with_reducible refine kf_multiply10 (c0 := c0) ?_ (fun s' h' => ?_)
    | with_reducible refine kf_raise10 (c0 := c0) ?_ (fun s' h' => ?_)
    | with_reducible refine kf_beginSum10 (c0 := c0) ?_ (fun s' h' => ?_)
    | with_reducible refine kf_endBase10 (c0 := c0) ?_ (fun s' h' => ?_)
    | with_reducible refine kf_endTerm10 (c0 := c0) ?_ (fun s' h' => ?_)
    | with_reducible refine ploop_i (fun a => kF3 c0 a) ?_ ?_
    | with_reducible refine ploop_i (fun a => kF3 c0 a.2) ?_ ?_
    | with_reducible refine ploop_i (fun a => kF3 c0 a.2.2) ?_ ?_
    | with_reducible refine ploop_i (fun a => kF3 c0 a.2.2.2) ?_ ?_
    | with_reducible refine ploop_i (fun a => kF3 c0 a.2.2.2.2) ?_ ?_
    | rintro _ rfl
    | intro _
    | unfold C_endBracket10_33
    | dsimp only
theorem kf_takeBase10 {c0 : Int} {l1 : Int} {s : im_S} {Q : Int → im_S → Prop} (h : kF3 c0 s) (hQ : ∀ z s', kF3 c0 s' → Q z s') : C_takeBase10 l1 s Q := by
  unfold C_takeBase10
  repeat' first
    | assumption
    | with_reducible refine kF3_pa ?_
    | with_reducible refine kF3_pf ?_ (by decide) (by decide)
    | with_reducible refine hQ _ _ ?_
    | with_reducible refine And.intro ?_ ?_
    | with_reducible refine kf_isDigit10 (c0 := c0) ?_ (fun z s' h' => ?_)
    | with_reducible refine kf_isToken10 (c0 := c0) ?_ (fun z s' h' => ?_)
    | with_reducible refine kf_good10 (c0 := c0) ?_ (fun z s' h' => ?_)
    | with_reducible refine kf_fail10 (c0 := c0) ?_ (by first | decide | (split <;> decide)) (fun s' h' => ?_)
    | with_reducible refine kf_peek10 (c0 := c0) ?_ (fun z s' h' => ?_)
    | with_reducible refine kf_cannot10 (c0 := c0) ?_ (fun s' h' => ?_)
    | with_reducible refine kf_number10 (c0 := c0) ?_ (fun z s' h' => ?_)
    | with_reducible refine kf_look10 (c0 := c0) ?_ (fun s' h' => ?_)
    | with_reducible refine kf_isFine10 (c0 := c0) ?_ (fun z s' h' => ?_)
    | with_reducible refine kf_multiply10 (c0 := c0) ?_ (fun s' h' => ?_)
    | with_reducible refine kf_raise10 (c0 := c0) ?_ (fun s' h' => ?_)
    | with_reducible refine kf_beginSum10 (c0 := c0) ?_ (fun s' h' => ?_)
    | with_reducible refine kf_endBase10 (c0 := c0) ?_ (fun s' h' => ?_)
    | with_reducible refine kf_endTerm10 (c0 := c0) ?_ (fun s' h' => ?_)
    | with_reducible refine kf_endBracket10 (c0 := c0) ?_ (fun s' h' => ?_)
    | with_reducible refine ploop_i (fun a => kF3 c0 a) ?_ ?_
    | with_reducible refine ploop_i (fun a => kF3 c0 a.2) ?_ ?_
    | with_reducible refine ploop_i (fun a => kF3 c0 a.2.2) ?_ ?_
    | with_reducible refine ploop_i (fun a => kF3 c0 a.2.2.2) ?_ ?_
    | with_reducible refine ploop_i (fun a => kF3 c0 a.2.2.2.2) ?_ ?_
    | rintro _ rfl
    | intro _
    | unfold C_takeBase10_157
    | unfold C_takeBase10_146
    | unfold C_takeBase10_2
    | dsimp only
theorem kf_readSum10 {c0 : Int}  {s : im_S} {Q : im_S → Prop} (h : kF3 c0 s) (hQ : ∀ s', kF3 c0 s' → Q s') : C_readSum10  s Q := by
  unfold C_readSum10
  repeat' first
    | assumption
    | with_reducible refine kF3_pa ?_
    | with_reducible refine kF3_pf ?_ (by decide) (by decide)
    | with_reducible refine hQ _ ?_
    | with_reducible refine And.intro ?_ ?_
    | with_reducible refine kf_isDigit10 (c0 := c0) ?_ (fun z s' h' => ?_)
    | with_reducible refine kf_isToken10 (c0 := c0) ?_ (fun z s' h' => ?_)
    | with_reducible refine kf_good10 (c0 := c0) ?_ (fun z s' h' => ?_)
    | with_reducible refine kf_fail10 (c0 := c0) ?_ (by first | decide | (split <;> decide)) (fun s' h' => ?_)
    | with_reducible refine kf_peek10 (c0 := c0) ?_ (fun z s' h' => ?_)
    | with_reducible refine kf_cannot10 (c0 := c0) ?_ (fun s' h' => ?_)
    | with_reducible refine kf_number10 (c0 := c0) ?_ (fun z s' h' => ?_)
    | with_reducible refine kf_look10 (c0 := c0) ?_ (fun s' h' => ?_)
    | with_reducible refine kf_isFine10 (c0 := c0) ?_ (fun z s' h' => ?_)
    | with_reducible refine kf_multiply10 (c0 := c0) ?_ (fun s' h' => ?_)
    | with_reducible refine kf_raise10 (c0 := c0) ?_ (fun s' h' => ?_)
    | with_reducible refine kf_beginSum10 (c0 := c0) ?_ (fun s' h' => ?_)
    | with_reducible refine kf_endBase10 (c0 := c0) ?_ (fun s' h' => ?_)
    | with_reducible refine kf_endTerm10 (c0 := c0) ?_ (fun s' h' => ?_)
    | with_reducible refine kf_endBracket10 (c0 := c0) ?_ (fun s' h' => ?_)
    | with_reducible refine kf_takeBase10 (c0 := c0) ?_ (fun z s' h' => ?_)
    | with_reducible refine ploop_i (fun a => kF3 c0 a) ?_ ?_
    | with_reducible refine ploop_i (fun a => kF3 c0 a.2) ?_ ?_
    | with_reducible refine ploop_i (fun a => kF3 c0 a.2.2) ?_ ?_
    | with_reducible refine ploop_i (fun a => kF3 c0 a.2.2.2) ?_ ?_
    | with_reducible refine ploop_i (fun a => kF3 c0 a.2.2.2.2) ?_ ?_
    | rintro _ rfl
    | intro _
    | unfold C_readSum10_174
    | unfold C_readSum10_171
    | unfold C_readSum10_169
    | unfold C_readSum10_147
    | unfold C_readSum10_99
    | unfold C_readSum10_13
    | dsimp only
theorem kf_make10 {c0 : Int} {l1 : Int} {s : im_S} {Q : im_S → Prop} (h : kF3 c0 s) (hQ : ∀ s', kF3 c0 s' → Q s') : C_make10 l1 s Q := by
  unfold C_make10
  repeat' first
    | assumption
    | with_reducible refine kF3_pa ?_
    | with_reducible refine kF3_pf ?_ (by decide) (by decide)
    | with_reducible refine hQ _ ?_
    | with_reducible refine And.intro ?_ ?_
    | with_reducible refine kf_isDigit10 (c0 := c0) ?_ (fun z s' h' => ?_)
    | with_reducible refine kf_isToken10 (c0 := c0) ?_ (fun z s' h' => ?_)
    | with_reducible refine kf_good10 (c0 := c0) ?_ (fun z s' h' => ?_)
    | with_reducible refine kf_fail10 (c0 := c0) ?_ (by first | decide | (split <;> decide)) (fun s' h' => ?_)
    | with_reducible refine kf_peek10 (c0 := c0) ?_ (fun z s' h' => ?_)
    | with_reducible refine kf_cannot10 (c0 := c0) ?_ (fun s' h' => ?_)
    | with_reducible refine kf_number10 (c0 := c0) ?_ (fun z s' h' => ?_)
    | with_reducible refine kf_look10 (c0 := c0) ?_ (fun s' h' => ?_)
    | with_reducible refine kf_isFine10 (c0 := c0) ?_ (fun z s' h' => ?_)
    | with_reducible refine kf_multiply10 (c0 := c0) ?_ (fun s' h' => ?_)
    | with_reducible refine kf_raise10 (c0 := c0) ?_ (fun s' h' => ?_)
    | with_reducible refine kf_beginSum10 (c0 := c0) ?_ (fun s' h' => ?_)
    | with_reducible refine kf_endBase10 (c0 := c0) ?_ (fun s' h' => ?_)
    | with_reducible refine kf_endTerm10 (c0 := c0) ?_ (fun s' h' => ?_)
    | with_reducible refine kf_endBracket10 (c0 := c0) ?_ (fun s' h' => ?_)
    | with_reducible refine kf_takeBase10 (c0 := c0) ?_ (fun z s' h' => ?_)
    | with_reducible refine kf_readSum10 (c0 := c0) ?_ (fun s' h' => ?_)
    | with_reducible refine ploop_i (fun a => kF3 c0 a) ?_ ?_
    | with_reducible refine ploop_i (fun a => kF3 c0 a.2) ?_ ?_
    | with_reducible refine ploop_i (fun a => kF3 c0 a.2.2) ?_ ?_
    | with_reducible refine ploop_i (fun a => kF3 c0 a.2.2.2) ?_ ?_
    | with_reducible refine ploop_i (fun a => kF3 c0 a.2.2.2.2) ?_ ?_
    | rintro _ rfl
    | intro _
    | dsimp only
theorem kf_readAtom10 {c0 : Int}  {s : im_S} {Q : im_S → Prop} (h : kF3 c0 s) (hQ : ∀ s', kF3 c0 s' → Q s') : C_readAtom10  s Q := by
  unfold C_readAtom10
  repeat' first
    | assumption
    | with_reducible refine kF3_pa ?_
    | with_reducible refine kF3_pf ?_ (by decide) (by decide)
    | with_reducible refine hQ _ ?_
    | with_reducible refine And.intro ?_ ?_
    | with_reducible refine kf_isDigit10 (c0 := c0) ?_ (fun z s' h' => ?_)
    | with_reducible refine kf_isToken10 (c0 := c0) ?_ (fun z s' h' => ?_)
    | with_reducible refine kf_good10 (c0 := c0) ?_ (fun z s' h' => ?_)
    | with_reducible refine kf_fail10 (c0 := c0) ?_ (by first | decide | (split <;> decide)) (fun s' h' => ?_)
    | with_reducible refine kf_peek10 (c0 := c0) ?_ (fun z s' h' => ?_)
    | with_reducible refine kf_cannot10 (c0 := c0) ?_ (fun s' h' => ?_)
    | with_reducible refine kf_number10 (c0 := c0) ?_ (fun z s' h' => ?_)
    | with_reducible refine kf_look10 (c0 := c0) ?_ (fun s' h' => ?_)
    | with_reducible refine kf_isFine10 (c0 := c0) ?_ (fun z s' h' => ?_)
    | with_reducible refine kf_multiply10 (c0 := c0) ?_ (fun s' h' => ?_)
    | with_reducible refine kf_raise10 (c0 := c0) ?_ (fun s' h' => ?_)
    | with_reducible refine kf_beginSum10 (c0 := c0) ?_ (fun s' h' => ?_)
    | with_reducible refine kf_endBase10 (c0 := c0) ?_ (fun s' h' => ?_)
    | with_reducible refine kf_endTerm10 (c0 := c0) ?_ (fun s' h' => ?_)
    | with_reducible refine kf_endBracket10 (c0 := c0) ?_ (fun s' h' => ?_)
    | with_reducible refine kf_takeBase10 (c0 := c0) ?_ (fun z s' h' => ?_)
    | with_reducible refine kf_readSum10 (c0 := c0) ?_ (fun s' h' => ?_)
    | with_reducible refine kf_make10 (c0 := c0) ?_ (fun s' h' => ?_)
    | with_reducible refine ploop_i (fun a => kF3 c0 a) ?_ ?_
    | with_reducible refine ploop_i (fun a => kF3 c0 a.2) ?_ ?_
    | with_reducible refine ploop_i (fun a => kF3 c0 a.2.2) ?_ ?_
    | with_reducible refine ploop_i (fun a => kF3 c0 a.2.2.2) ?_ ?_
    | with_reducible refine ploop_i (fun a => kF3 c0 a.2.2.2.2) ?_ ?_
    | rintro _ rfl
    | intro _
    | unfold C_readAtom10_206
    | unfold C_readAtom10_200
    | unfold C_readAtom10_137
    | unfold C_readAtom10_99
    | unfold C_readAtom10_74
    | unfold C_readAtom10_49
    | unfold C_readAtom10_19
    | dsimp only
theorem kf_wait110 {c0 : Int} {l1 : Int} {s : im_S} {Q : im_S → Prop} (h : kF3 c0 s) (hQ : ∀ s', kF3 c0 s' → Q s') : C_wait110 l1 s Q := by
  unfold C_wait110
  repeat' first
    | assumption
    | with_reducible refine kF3_pa ?_
    | with_reducible refine kF3_pf ?_ (by decide) (by decide)
    | with_reducible refine hQ _ ?_
    | with_reducible refine And.intro ?_ ?_
    | with_reducible refine kf_isDigit10 (c0 := c0) ?_ (fun z s' h' => ?_)
    | with_reducible refine kf_isToken10 (c0 := c0) ?_ (fun z s' h' => ?_)
    | with_reducible refine kf_good10 (c0 := c0) ?_ (fun z s' h' => ?_)
    | with_reducible refine kf_fail10 (c0 := c0) ?_ (by first | decide | (split <;> decide)) (fun s' h' => ?_)
    | with_reducible refine kf_peek10 (c0 := c0) ?_ (fun z s' h' => ?_)
    | with_reducible refine kf_cannot10 (c0 := c0) ?_ (fun s' h' => ?_)
    | with_reducible refine kf_number10 (c0 := c0) ?_ (fun z s' h' => ?_)
    | with_reducible refine kf_look10 (c0 := c0) ?_ (fun s' h' => ?_)
    | with_reducible refine kf_isFine10 (c0 := c0) ?_ (fun z s' h' => ?_)
    | with_reducible refine kf_multiply10 (c0 := c0) ?_ (fun s' h' => ?_)
    | with_reducible refine kf_raise10 (c0 := c0) ?_ (fun s' h' => ?_)
    | with_reducible refine kf_beginSum10 (c0 := c0) ?_ (fun s' h' => ?_)
    | with_reducible refine kf_endBase10 (c0 := c0) ?_ (fun s' h' => ?_)
    | with_reducible refine kf_endTerm10 (c0 := c0) ?_ (fun s' h' => ?_)
    | with_reducible refine kf_endBracket10 (c0 := c0) ?_ (fun s' h' => ?_)
    | with_reducible refine kf_takeBase10 (c0 := c0) ?_ (fun z s' h' => ?_)
    | with_reducible refine kf_readSum10 (c0 := c0) ?_ (fun s' h' => ?_)
    | with_reducible refine kf_make10 (c0 := c0) ?_ (fun s' h' => ?_)
    | with_reducible refine kf_readAtom10 (c0 := c0) ?_ (fun s' h' => ?_)
    | with_reducible refine ploop_i (fun a => kF3 c0 a) ?_ ?_
    | with_reducible refine ploop_i (fun a => kF3 c0 a.2) ?_ ?_
    | with_reducible refine ploop_i (fun a => kF3 c0 a.2.2) ?_ ?_
    | with_reducible refine ploop_i (fun a => kF3 c0 a.2.2.2) ?_ ?_
    | with_reducible refine ploop_i (fun a => kF3 c0 a.2.2.2.2) ?_ ?_
    | rintro _ rfl
    | intro _
    | dsimp only
theorem kf_settle10 {c0 : Int} {l1 : Int} {s : im_S} {Q : im_S → Prop} (h : kF3 c0 s) (hQ : ∀ s', kF3 c0 s' → Q s') : C_settle10 l1 s Q := by
  unfold C_settle10
  repeat' first
    | assumption
    | with_reducible refine kF3_pa ?_
    | with_reducible refine kF3_pf ?_ (by decide) (by decide)
    | with_reducible refine hQ _ ?_
    | with_reducible refine And.intro ?_ ?_
    | with_reducible refine kf_isDigit10 (c0 := c0) ?_ (fun z s' h' => ?_)
    | with_reducible refine kf_isToken10 (c0 := c0) ?_ (fun z s' h' => ?_)
    | with_reducible refine kf_good10 (c0 := c0) ?_ (fun z s' h' => ?_)
    | with_reducible refine kf_fail10 (c0 := c0) ?_ (by first | decide | (split <;> decide)) (fun s' h' => ?_)
    | with_reducible refine kf_peek10 (c0 := c0) ?_ (fun z s' h' => ?_)
    | with_reducible refine kf_cannot10 (c0 := c0) ?_ (fun s' h' => ?_)
    | with_reducible refine kf_number10 (c0 := c0) ?_ (fun z s' h' => ?_)
    | with_reducible refine kf_look10 (c0 := c0) ?_ (fun s' h' => ?_)
    | with_reducible refine kf_isFine10 (c0 := c0) ?_ (fun z s' h' => ?_)
    | with_reducible refine kf_multiply10 (c0 := c0) ?_ (fun s' h' => ?_)
    | with_reducible refine kf_raise10 (c0 := c0) ?_ (fun s' h' => ?_)
    | with_reducible refine kf_beginSum10 (c0 := c0) ?_ (fun s' h' => ?_)
    | with_reducible refine kf_endBase10 (c0 := c0) ?_ (fun s' h' => ?_)
    | with_reducible refine kf_endTerm10 (c0 := c0) ?_ (fun s' h' => ?_)
    | with_reducible refine kf_endBracket10 (c0 := c0) ?_ (fun s' h' => ?_)
    | with_reducible refine kf_takeBase10 (c0 := c0) ?_ (fun z s' h' => ?_)
    | with_reducible refine kf_readSum10 (c0 := c0) ?_ (fun s' h' => ?_)
    | with_reducible refine kf_make10 (c0 := c0) ?_ (fun s' h' => ?_)
    | with_reducible refine kf_readAtom10 (c0 := c0) ?_ (fun s' h' => ?_)
    | with_reducible refine kf_wait110 (c0 := c0) ?_ (fun s' h' => ?_)
    | with_reducible refine ploop_i (fun a => kF3 c0 a) ?_ ?_
    | with_reducible refine ploop_i (fun a => kF3 c0 a.2) ?_ ?_
    | with_reducible refine ploop_i (fun a => kF3 c0 a.2.2) ?_ ?_
    | with_reducible refine ploop_i (fun a => kF3 c0 a.2.2.2) ?_ ?_
    | with_reducible refine ploop_i (fun a => kF3 c0 a.2.2.2.2) ?_ ?_
    | rintro _ rfl
    | intro _
    | unfold C_settle10_64
    | unfold C_settle10_0
    | dsimp only
theorem kf_readText10 {c0 : Int}  {s : im_S} {Q : im_S → Prop} (h : kF3 c0 s) (hQ : ∀ s', kF3 c0 s' → Q s') : C_readText10  s Q := by
  unfold C_readText10
  repeat' first
    | assumption
    | with_reducible refine kF3_pa ?_
    | with_reducible refine kF3_pf ?_ (by decide) (by decide)
    | with_reducible refine hQ _ ?_
    | with_reducible refine And.intro ?_ ?_
    | with_reducible refine kf_isDigit10 (c0 := c0) ?_ (fun z s' h' => ?_)
    | with_reducible refine kf_isToken10 (c0 := c0) ?_ (fun z s' h' => ?_)
    | with_reducible refine kf_good10 (c0 := c0) ?_ (fun z s' h' => ?_)
    | with_reducible refine kf_fail10 (c0 := c0) ?_ (by first | decide | (split <;> decide)) (fun s' h' => ?_)
    | with_reducible refine kf_peek10 (c0 := c0) ?_ (fun z s' h' => ?_)
    | with_reducible refine kf_cannot10 (c0 := c0) ?_ (fun s' h' => ?_)
    | with_reducible refine kf_number10 (c0 := c0) ?_ (fun z s' h' => ?_)
    | with_reducible refine kf_look10 (c0 := c0) ?_ (fun s' h' => ?_)
    | with_reducible refine kf_isFine10 (c0 := c0) ?_ (fun z s' h' => ?_)
    | with_reducible refine kf_multiply10 (c0 := c0) ?_ (fun s' h' => ?_)
    | with_reducible refine kf_raise10 (c0 := c0) ?_ (fun s' h' => ?_)
    | with_reducible refine kf_beginSum10 (c0 := c0) ?_ (fun s' h' => ?_)
    | with_reducible refine kf_endBase10 (c0 := c0) ?_ (fun s' h' => ?_)
    | with_reducible refine kf_endTerm10 (c0 := c0) ?_ (fun s' h' => ?_)
    | with_reducible refine kf_endBracket10 (c0 := c0) ?_ (fun s' h' => ?_)
    | with_reducible refine kf_takeBase10 (c0 := c0) ?_ (fun z s' h' => ?_)
    | with_reducible refine kf_readSum10 (c0 := c0) ?_ (fun s' h' => ?_)
    | with_reducible refine kf_make10 (c0 := c0) ?_ (fun s' h' => ?_)
    | with_reducible refine kf_readAtom10 (c0 := c0) ?_ (fun s' h' => ?_)
    | with_reducible refine kf_wait110 (c0 := c0) ?_ (fun s' h' => ?_)
    | with_reducible refine kf_settle10 (c0 := c0) ?_ (fun s' h' => ?_)
    | with_reducible refine ploop_i (fun a => kF3 c0 a) ?_ ?_
    | with_reducible refine ploop_i (fun a => kF3 c0 a.2) ?_ ?_
    | with_reducible refine ploop_i (fun a => kF3 c0 a.2.2) ?_ ?_
    | with_reducible refine ploop_i (fun a => kF3 c0 a.2.2.2) ?_ ?_
    | with_reducible refine ploop_i (fun a => kF3 c0 a.2.2.2.2) ?_ ?_
    | rintro _ rfl
    | intro _
    | unfold C_readText10_292
    | unfold C_readText10_289
    | unfold C_readText10_285
    | unfold C_readText10_272
    | unfold C_readText10_173
    | unfold C_readText10_139
    | unfold C_readText10_118
    | unfold C_readText10_89
    | unfold C_readText10_71
    | unfold C_readText10_24
    | dsimp only
