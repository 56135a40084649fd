/-! the text's loop of the reference, with its program -/
abbrev fr9 : Type := Nat × Bool × Bool
def wlv (k : Nat) (a o : Bool) : List Int := bl o (-3) ++ bl a (-2) ++ List.replicate k (-1)
def wfr : List fr9 → List Int
  | [] => []
  | f :: fs => wfr fs ++ wlv f.1 f.2.1 f.2.2 ++ [-4]
section ZCONT
variable (tx : Nat → Int) (n : Nat)
def zR3 (W : ou atz → Prop) (d : Nat) (o : Bool) : ou atz → Prop
  | .inl e => W (.inl e)
  | .inr (j, B) => ∃ r, Tz tx n 5 0 d j (pshb o 12 B) r ∧ W r
def zR1 (W : ou atz → Prop) (d : Nat) (a o : Bool) : ou atz → Prop
  | .inl e => W (.inl e)
  | .inr (j, B) => ∃ r, Tz tx n 3 0 d j (pshb a 11 B) r ∧ zR3 tx n W d o r
def zxS (R : ou atz) : List fr9 → ou atz → Prop
  | [], .inl e => R = .inl e
  | [], .inr (j, B) => (nxc tx n j = 0 ∧ R = .inr (j, B)) ∨ (nxc tx n j ≠ 0 ∧ R = .inl (2, (j : Int)))
  | _ :: _, .inl e => R = .inl e
  | f :: fs, .inr (j, B) => (nxc tx n j ≠ 93 ∧ R = .inl (2, (j : Int))) ∨ (nxc tx n j = 93 ∧ ∃ q, adv tx n (j + 1) q ∧ zR1 tx n (zxS R fs) fs.length f.2.1 f.2.2 (q.map id (fun z => (z.1, ntk f.1 B))))
end ZCONT
theorem zxS_e {tx : Nat → Int} {n : Nat} {R : ou atz} {e : Int × Int} : ∀ {fs : List fr9}, zxS tx n R fs (.inl e) → R = .inl e
  | [], h => h
  | _ :: _, h => h
theorem zal_1 {tx : Nat → Int} {n d j : Nat} {o : Bool} {W : ou atz → Prop} {A : atz} {r2 : ou atz} (g : Tz tx n 2 0 d j A r2) (h : zR3 tx n W d o r2) : ∃ r1, Tz tx n 1 0 d j A r1 ∧ zR1 tx n W d false o r1 := by
  rcases Tz_2 g with ⟨e, k, er⟩ | ⟨j1, B, k, k2⟩
  · subst er; exact ⟨.inl e, k, h⟩
  · exact ⟨.inr (j1, B), k, r2, k2, h⟩
theorem zte_1 {tx : Nat → Int} {n d j : Nat} {W : ou atz → Prop} {A : atz} {r4 : ou atz} (g : Tz tx n 4 0 d j A r4) (h : W r4) : ∃ r1, Tz tx n 1 0 d j A r1 ∧ zR1 tx n W d false false r1 := by
  rcases Tz_4 g with ⟨e, k, er⟩ | ⟨j1, B, k, k2⟩
  · subst er; exact zal_1 (o := false) k h
  · exact zal_1 (o := false) k ⟨r4, k2, h⟩
/-- behind a piece -/
theorem zre_3 {tx : Nat → Int} {n d j : Nat} {o : Bool} {W : ou atz → Prop} {A : atz} {r3 : ou atz} (g : Tz tx n 3 0 d j A r3) (h : zR3 tx n W d o r3) : (nxc tx n j = 38 → ∃ q, adv tx n (j + 1) q ∧ ((∃ e, q = .inl e ∧ W (.inl e)) ∨ ∃ j1 r1, q = .inr (j1, ()) ∧ Tz tx n 1 0 d j1 A r1 ∧ zR1 tx n W d true o r1)) ∧ (nxc tx n j = 124 → ∃ q, adv tx n (j + 1) q ∧ ((∃ e, q = .inl e ∧ W (.inl e)) ∨ ∃ j1 r1, q = .inr (j1, ()) ∧ Tz tx n 1 0 d j1 (pshb o 12 A) r1 ∧ zR1 tx n W d false true r1)) ∧ (nxc tx n j ≠ 38 → nxc tx n j ≠ 124 → W (.inr (j, pshb o 12 A))) := by
  rcases Tz_3 g with ⟨n38, er⟩ | ⟨e38, g⟩
  · subst er
    obtain ⟨r5, g5, hw⟩ := h
    rcases Tz_5 g5 with ⟨n124, er⟩ | ⟨e124, g⟩
    · subst er
      exact ⟨fun z => absurd z n38, fun z => absurd z n124, fun _ _ => hw⟩
    · refine ⟨fun z => absurd z n38, fun _ => ?_, fun _ z => absurd e124 z⟩
      rcases g with ⟨e, a, er⟩ | ⟨j1, a, g⟩
      · subst er; exact ⟨.inl e, a, Or.inl ⟨e, rfl, hw⟩⟩
      · refine ⟨.inr (j1, ()), a, Or.inr ?_⟩
        rcases g with ⟨e, g, er⟩ | ⟨j2, B, g, k⟩
        · subst er
          obtain ⟨r1, x, y⟩ := zal_1 (o := true) (W := W) g hw
          exact ⟨j1, r1, rfl, x, y⟩
        · obtain ⟨r1, x, y⟩ := zal_1 (o := true) (W := W) g ⟨r5, k, hw⟩
          exact ⟨j1, r1, rfl, x, y⟩
  · refine ⟨fun _ => ?_, fun z => by omega, fun z => absurd e38 z⟩
    rcases g with ⟨e, a, er⟩ | ⟨j1, a, g⟩
    · subst er; exact ⟨.inl e, a, Or.inl ⟨e, rfl, h⟩⟩
    · refine ⟨.inr (j1, ()), a, Or.inr ?_⟩
      rcases g with ⟨e, gg, er⟩ | ⟨j2, B, gg, k⟩
      · subst er; exact ⟨j1, .inl e, rfl, gg, h⟩
      · exact ⟨j1, .inr (j2, B), rfl, gg, r3, k, h⟩
/-- the reference's program so far -/
def PRs (s : im_S) (l : List Int) (w : List Int) : Prop := wts s w ∧ ∃ rho, mde s rho ∧ eqr l rho
theorem PRs_fr {F : Nat → Nat → Prop} {R : Nat → Prop} {s s' : im_S} {l w : List Int} (h : PRs s l w) (f : gfr F R s s') (h1 : ∀ k, (k = 10 ∨ k = 12) → ¬ F 582 k) (h2 : ∀ c, (c = 586 ∨ c = 587) → ¬ R c) : PRs s' l w := by
  obtain ⟨a, r, b, c⟩ := h
  exact ⟨wts_fr a f (h1 _ (by omega)) (h2 _ (by omega)), r, mde_fr b f (h1 _ (by omega)) (h2 _ (by omega)), c⟩
theorem bl_mem {b : Bool} {c x : Int} (h : x ∈ bl b c) : x = c := by
  cases b with
  | false => cases h
  | true => exact List.mem_singleton.1 h
theorem bl_rev (b : Bool) (c : Int) : (bl b c).reverse = bl b c := by cases b <;> rfl
/-- what stands below a level -/
theorem wfr_last {fs : List fr9} {L : List Int} {b : Int} (h : wfr fs = L ++ [b]) : b = -4 := by
  cases fs with
  | nil =>
    have : (wfr []).length = L.length + 1 := by rw [h, List.length_append]; rfl
    exact absurd this (by show ¬ (0 = L.length + 1); omega)
  | cons f fs =>
    obtain ⟨_, x2⟩ := List.append_inj' (show wfr fs ++ wlv f.1 f.2.1 f.2.2 ++ [-4] = L ++ [b] from h) rfl
    cases x2
    rfl
theorem wfr_bl {fs : List fr9} {o : Bool} {c : Int} {L : List Int} {b : Int} (h : wfr fs ++ bl o c = L ++ [b]) : b = -4 ∨ b = c := by
  cases o with
  | false =>
    rw [show bl false c = [] from rfl, List.append_nil] at h
    exact Or.inl (wfr_last h)
  | true =>
    obtain ⟨_, x2⟩ := List.append_inj' (show wfr fs ++ [c] = L ++ [b] from h) rfl
    cases x2
    exact Or.inr rfl
theorem wfr_bl2 {fs : List fr9} {o a : Bool} {c c' : Int} {L : List Int} {b : Int} (h : wfr fs ++ bl o c ++ bl a c' = L ++ [b]) : b = -4 ∨ b = c ∨ b = c' := by
  cases a with
  | false =>
    rw [show bl false c' = [] from rfl, List.append_nil] at h
    have := wfr_bl h
    omega
  | true =>
    obtain ⟨_, x2⟩ := List.append_inj' (show wfr fs ++ bl o c ++ [c'] = L ++ [b] from h) rfl
    cases x2
    exact Or.inr (Or.inr rfl)
/-- settle behind a piece: its signs ~ -/
theorem settle_1 {s : im_S} {B : atz} {fs : List fr9} {k : Nat} {a o : Bool} {Q : im_S → Prop} (h : PRs s B.2 (wfr fs ++ wlv k a o)) (hQ : ∀ s', wtf9 s s' → PRs s' (ntk k B).2 (wfr fs ++ wlv 0 a o) → Q s') : C_settle10 (-1) s Q := by
  obtain ⟨w, rho, m, e⟩ := h
  have e0 : wfr fs ++ wlv k a o = (wfr fs ++ bl o (-3) ++ bl a (-2)) ++ List.replicate k (-1) := by unfold wlv; simp only [List.append_assoc]
  rw [e0] at w
  refine settle_z m w (fun c hc => ?_) (fun L b hb => ?_) (fun s' f m' w' => hQ s' f ⟨?_, _, m', ?_⟩)
  · rw [(List.mem_replicate.1 hc).2]; decide
  · have := wfr_bl2 hb
    omega
  · have e1 : wfr fs ++ wlv 0 a o = wfr fs ++ bl o (-3) ++ bl a (-2) := by
      unfold wlv
      rw [show List.replicate 0 (-1 : Int) = [] from rfl, List.append_nil, List.append_assoc]
    rw [e1]; exact w'
  · rw [List.reverse_replicate]; exact eqr_ntk e
theorem settle_2 {s : im_S} {B : atz} {fs : List fr9} {a o : Bool} {Q : im_S → Prop} (h : PRs s B.2 (wfr fs ++ wlv 0 a o)) (hQ : ∀ s', wtf9 s s' → PRs s' (pshb a 11 B).2 (wfr fs ++ bl o (-3)) → Q s') : C_settle10 (-2) s Q := by
  obtain ⟨w, rho, m, e⟩ := h
  have e0 : wfr fs ++ wlv 0 a o = (wfr fs ++ bl o (-3)) ++ bl a (-2) := by unfold wlv; rw [show List.replicate 0 (-1 : Int) = [] from rfl, List.append_nil, List.append_assoc]
  rw [e0] at w
  refine settle_z m w (fun c hc => ?_) (fun L b hb => ?_) (fun s' f m' w' => hQ s' f ⟨w', _, m', ?_⟩)
  · rw [bl_mem hc]; decide
  · have := wfr_bl hb
    omega
  · rw [bl_rev]; exact eqr_pshb e (by decide) (by decide)
theorem settle_3 {s : im_S} {B : atz} {fs : List fr9} {a o : Bool} {Q : im_S → Prop} (h : PRs s B.2 (wfr fs ++ wlv 0 a o)) (hQ : ∀ s', wtf9 s s' → PRs s' (pshb o 12 (pshb a 11 B)).2 (wfr fs) → Q s') : C_settle10 (-3) s Q := by
  obtain ⟨w, rho, m, e⟩ := h
  have e0 : wfr fs ++ wlv 0 a o = wfr fs ++ (bl o (-3) ++ bl a (-2)) := by unfold wlv; rw [show List.replicate 0 (-1 : Int) = [] from rfl, List.append_nil]
  rw [e0] at w
  refine settle_z m w (fun c hc => ?_) (fun L b hb => ?_) (fun s' f m' w' => hQ s' f ⟨w', _, m', ?_⟩)
  · rcases List.mem_append.1 hc with q | q
    · rw [bl_mem q]; decide
    · rw [bl_mem q]; decide
  · exact Or.inr (wfr_last hb)
  · rw [List.reverse_append, bl_rev, bl_rev, ← List.append_assoc]
    exact eqr_pshb (eqr_pshb e (by decide) (by decide)) (by decide) (by decide)
def RTz (tx : Nat → Int) (n : Nat) (R : ou atz) (q : Int × Int × Int × Int × im_S) : Prop :=
  (∃ e, rbd q.2.2.2.2 e ∧ R = .inl e) ∨ (rtx tx n q.2.2.2.2 ∧ q.2.2.2.2.1 582 2 = 0 ∧ ∃ (A : atz) (a o : Bool), rat q.2.2.2.2 A.1 ∧
  ((q.2.2.2.1 ≠ 0 ∧ PRs q.2.2.2.2 A.2 (wfr [] ++ wlv 0 a o) ∧ ∃ j, R = .inr (j, pshb o 12 (pshb a 11 A))) ∨ (q.2.2.2.1 = 0 ∧ ∃ (fs : List fr9) (i : Nat) (u : ou Unit), q.1 = (fs.length : Int) ∧ fs.length ≤ 10 ∧ q.2.2.2.2.1 582 4 = (i : Int) ∧ adv tx n i u ∧
  ((q.2.2.1 ≠ 0 ∧ ∃ k : Nat, q.2.1 = (k : Int) ∧ k ≤ 10 ∧ PRs q.2.2.2.2 A.2 (wfr fs ++ wlv k a o) ∧ ((∃ e, u = .inl e ∧ R = .inl e) ∨ ∃ j r1, u = .inr (j, ()) ∧ Tz tx n 1 k fs.length j A r1 ∧ zR1 tx n (zxS tx n R fs) fs.length a o r1)) ∨
  (q.2.2.1 = 0 ∧ q.2.1 = 0 ∧ PRs q.2.2.2.2 A.2 (wfr fs ++ wlv 0 a o) ∧ ((∃ e, u = .inl e ∧ R = .inl e) ∨ ∃ j r3, u = .inr (j, ()) ∧ Tz tx n 3 0 fs.length j (pshb a 11 A) r3 ∧ zR3 tx n (zxS tx n R fs) fs.length o r3))))))
theorem RTz_bad {tx : Nat → Int} {n : Nat} {R : ou atz} {l1 l2 l3 l4 : Int} {s : im_S} {e : Int × Int} (h : rbd s e) (hR : R = .inl e) : RTz tx n R (l1, l2, l3, l4, s) := Or.inl ⟨e, h, hR⟩
theorem RTz_1 {tx : Nat → Int} {n : Nat} {R : ou atz} {l1 l2 l3 : Int} {s : im_S} {A : atz} {a o : Bool} {fs : List fr9} {i k : Nat} {q : ou Unit} (hc : rtx tx n s) (h0 : s.1 582 2 = 0) (hA : rat s A.1) (h1 : l1 = (fs.length : Int)) (hd : fs.length ≤ 10) (hi : s.1 582 4 = (i : Int)) (ha : adv tx n i q) (h3 : l3 ≠ 0) (h2 : l2 = (k : Int)) (hk : k ≤ 10) (hp : PRs s A.2 (wfr fs ++ wlv k a o)) (h : (∃ e, q = .inl e ∧ R = .inl e) ∨ ∃ j r1, q = .inr (j, ()) ∧ Tz tx n 1 k fs.length j A r1 ∧ zR1 tx n (zxS tx n R fs) fs.length a o r1) : RTz tx n R (l1, l2, l3, 0, s) := Or.inr ⟨hc, h0, A, a, o, hA, Or.inr ⟨rfl, fs, i, q, h1, hd, hi, ha, Or.inl ⟨h3, k, h2, hk, hp, h⟩⟩⟩
theorem RTz_3 {tx : Nat → Int} {n : Nat} {R : ou atz} {l1 l2 : Int} {s : im_S} {A : atz} {a o : Bool} {fs : List fr9} {i : Nat} {q : ou Unit} (hc : rtx tx n s) (h0 : s.1 582 2 = 0) (hA : rat s A.1) (h1 : l1 = (fs.length : Int)) (hd : fs.length ≤ 10) (hi : s.1 582 4 = (i : Int)) (ha : adv tx n i q) (h2 : l2 = 0) (hp : PRs s A.2 (wfr fs ++ wlv 0 a o)) (h : (∃ e, q = .inl e ∧ R = .inl e) ∨ ∃ j r3, q = .inr (j, ()) ∧ Tz tx n 3 0 fs.length j (pshb a 11 A) r3 ∧ zR3 tx n (zxS tx n R fs) fs.length o r3) : RTz tx n R (l1, l2, 0, 0, s) := Or.inr ⟨hc, h0, A, a, o, hA, Or.inr ⟨rfl, fs, i, q, h1, hd, hi, ha, Or.inr ⟨rfl, h2, hp, h⟩⟩⟩
/-- the loop's end -/
theorem rz_292 {tx : Nat → Int} {n : Nat} {R : ou atz} {l1 l2 l3 l4 : Int} {s : im_S} {Q : im_S → Prop} (h : RTz tx n R (l1, l2, l3, l4, s)) (hz : l4 ≠ 0 ∨ s.1 582 2 ≠ 0) (hQ1 : ∀ e s', rbd s' e → R = .inl e → Q s') (hQ2 : ∀ s' j A, s'.1 582 2 = 0 → R = .inr (j, A) → rat s' A.1 → PRs s' A.2 [] → Q s') : C_readText10_292 s Q := by
  rcases h with ⟨e, b, eR⟩ | ⟨_, h0, A, a, o, hA, h | h⟩
  · exact settle_r (fun s1 f1 => hQ1 e s1 (rbd_wt b f1) eR)
  · obtain ⟨_, hp, j, eR⟩ := h
    refine settle_3 (B := A) (fs := []) hp (fun s1 f1 p1 => hQ2 s1 j _ (by rw [f1.1 _ _ (by omega)]; exact h0) eR ?_ p1)
    have e1 : (pshb o 12 (pshb a 11 A)).1 = A.1 := by cases o <;> cases a <;> rfl
    rw [e1]
    exact rat_wt hA f1
  · obtain ⟨h4, _⟩ := h
    rcases hz with hz | hz
    · exact absurd h4 hz
    · exact absurd h0 hz
/-- wait and one sign on -/
theorem rz_step {x : Int} {s : im_S} {i : Nat} {l w : List Int} {K : im_S → Prop} (hi : s.1 582 4 = (i : Int)) (hn : i ≤ 400) (hp : PRs s l w) (h : ∀ s', s'.1 582 4 = ((i + 1 : Nat) : Int) → stf9 s s' → PRs s' l (w ++ [x]) → K s') : C_wait110 x s (fun s435 => ∀ s438, s438 = cpf s435 582 4 (w32 ((cgf s435 582 4) + 1)) → K s438) := by
  obtain ⟨hw, rho, hm, he⟩ := hp
  refine wait_z hw (fun s1 f1 w1 r1 k1 s2 e2 => ?_)
  have e4 : cgf s1 582 4 = (i : Int) := (f1.1 _ _ (by omega)).trans hi
  have p1 : PRs s1 l (w ++ [x]) := ⟨w1, rho, ⟨k1.trans hm.1, by rw [r1]; exact hm.2⟩, he⟩
  refine h s2 ?_ ?_ ?_
  · rw [e2, cpf_same, e4, w32_id (by omega) (by omega)]; omega
  · subst e2; exact gfr_pf (stf_wt f1) ⟨rfl, Or.inl rfl⟩
  · have f2 : gfr (fun c f => c = 582 ∧ f = 4) (fun _ => False) s1 s2 := by subst e2; exact gfr_pf (gfr_refl _ _ _) ⟨rfl, rfl⟩
    exact PRs_fr p1 f2 (fun k hk => by omega) (fun c hc z => z)
theorem PRs_pk {s s' : im_S} {l w : List Int} (h : PRs s l w) (f : pkf s s') : PRs s' l w := PRs_fr h f (fun k hk => by omega) (fun c hc z => z)
theorem wlv_s (k : Nat) (a o : Bool) : wlv (k + 1) a o = wlv k a o ++ [-1] := by
  unfold wlv
  rw [List.replicate_succ', List.append_assoc, List.append_assoc, List.append_assoc]
theorem wlv_0 : wlv 0 false false = [] := rfl
theorem pshb_1 (b : Bool) (c : Int) (B : atz) : (pshb b c B).1 = B.1 := by cases b <;> rfl
/-- one turn of the loop while a piece is wanted -/
theorem rz_24a {tx : Nat → Int} {n : Nat} {R : ou atz} {l1 l2 l3 : Int} {s : im_S} {Q : im_S → Prop} {A : atz} {a o : Bool} {fs : List fr9} {i k : Nat} {q : ou Unit} (hc : rtx tx n s) (h0 : s.1 582 2 = 0) (hA : rat s A.1) (h1 : l1 = (fs.length : Int)) (hd : fs.length ≤ 10) (hi : s.1 582 4 = (i : Int)) (ha : adv tx n i q) (h3 : l3 ≠ 0) (h2 : l2 = (k : Int)) (hk : k ≤ 10) (hp : PRs s A.2 (wfr fs ++ wlv k a o)) (h : (∃ e, q = .inl e ∧ R = .inl e) ∨ ∃ j r1, q = .inr (j, ()) ∧ Tz tx n 1 k fs.length j A r1 ∧ zR1 tx n (zxS tx n R fs) fs.length a o r1) : C_readText10_24 (RTz tx n R) l1 l2 l3 0 s Q := by
  subst h1; subst h2
  refine ⟨fun z => absurd rfl z, fun _ => good_r (fun _ => ⟨fun z => absurd z (by omega), fun _ => ?_⟩) (fun z => absurd h0 z)⟩
  rcases h with ⟨e, eq, eR⟩ | ⟨j, r1, eq, g, hr⟩
  · subst eq
    obtain ⟨j, sk, hj⟩ := ha
    rcases hj with ⟨ej, _⟩ | ⟨ej, jn, nt⟩
    · cases ej
    have ej2 : e = (1, (j : Int)) := by cases ej; rfl
    refine peek_r hc ⟨i, hi, sk⟩ (fun s1 a4 a2 a3 f1 => ?_)
    have ex : nxr tx n j = tx j := if_pos jn
    rw [ex]
    have hg : rgs tx n s1 j := ⟨a2.trans h0, j, a4, skp_s sk⟩
    refine ⟨fun z => absurd z h3, fun _ => ⟨fun _ => ⟨fun z => absurd z h3, fun _ => ⟨fun _ => ⟨fun z => absurd z h3, fun _ => ?_⟩, fun z => absurd (show tok (tx j) by rw [z]; unfold tok dgt; omega) nt⟩⟩, fun z => absurd (show tok (tx j) by rw [z]; unfold tok dgt; omega) nt⟩⟩
    refine readAtom_q (A := A.1) (r := .inl e) (i := j) (q := .inl e) (rtx_pk hc f1) hg.1 a4 ⟨j, skp_s sk, Or.inr ⟨by rw [ej2], jn, nt⟩⟩ (rat_pk hA f1) (Or.inl ⟨e, rfl, rfl⟩) (fun e' s2 b er => ?_) (fun s2 j' A' er _ _ _ _ _ => by cases er)
    cases er
    exact settle_r (fun s3 f3 => RTz_bad (rbd_wt b f3) eR)
  · subst eq
    obtain ⟨sk, tk⟩ := adv_sk ha
    have jn : j ≤ 400 := by have := sk.2.1; have := hc.2.1; omega
    refine peek_r hc ⟨i, hi, sk⟩ (fun s1 a4 a2 a3 f1 => ?_)
    have hg : rgs tx n s1 j := ⟨a2.trans h0, j, a4, skp_s sk⟩
    have hc1 := rtx_pk hc f1
    have hA1 := rat_pk hA f1
    have hp1 := PRs_pk hp f1
    refine ⟨fun z => absurd z h3, fun _ => ?_⟩
    rcases Tz_1 g with ⟨c126, g⟩ | ⟨n126, n91, r0, g, er0⟩ | ⟨c91, g⟩
    · refine ⟨fun z => absurd ((nxr_c (by omega) (by omega)).2 c126) z, fun _ => ?_⟩
      rw [w32_id (by omega) (by omega)]
      rcases g with ⟨k10, er⟩ | ⟨k10, g⟩
      · subst er
        refine ⟨fun z => absurd z (by omega), fun _ => fail_r hg.1 (by omega) (fun s2 b _ => ?_)⟩
        refine rt_badstep (e := (3, (j : Int))) (by rw [← a4]; exact b) (fun s3 b3 => RTz_bad b3 (zxS_e hr))
      · refine ⟨fun _ => rz_step a4 jn hp1 (fun s2 b4 f2 p2 => ?_), fun z => absurd z (by omega)⟩
        have z2 : s2.1 582 2 = 0 := (f2.1 _ _ (by omega)).trans hg.1
        rw [List.append_assoc, ← wlv_s] at p2
        rcases g with ⟨e, aq, er⟩ | ⟨j1, aq, g⟩
        · subst er
          exact RTz_1 (k := k + 1) (fs := fs) (rtx_st hc1 f2) z2 (rat_st hA1 f2) rfl hd b4 aq h3 (by omega) (by omega) p2 (Or.inl ⟨e, rfl, zxS_e hr⟩)
        · exact RTz_1 (k := k + 1) (fs := fs) (rtx_st hc1 f2) z2 (rat_st hA1 f2) rfl hd b4 aq h3 (by omega) (by omega) p2 (Or.inr ⟨j1, r1, rfl, g, hr⟩)
    · refine ⟨fun _ => ⟨fun z => absurd z h3, fun _ => ⟨fun _ => ⟨fun z => absurd z h3, fun _ => ?_⟩, fun z => absurd ((nxr_c (by omega) (by omega)).1 z) n91⟩⟩, fun z => absurd ((nxr_c (by omega) (by omega)).1 z) n126⟩
      obtain ⟨r9, gt, e9⟩ := g
      refine readAtom_rz hc1 hg tk hA1 gt (fun e s2 b er => ?_) (fun s2 j' A' er hg2 tk2 hc2 hA2 ta2 mk2 => ?_)
      · subst er
        have er1 : r1 = .inl e := by rw [er0, e9]; rfl
        subst er1
        exact settle_r (fun s3 f3 => RTz_bad (rbd_wt b f3) (zxS_e hr))
      · subst er
        obtain ⟨w2, rho, m2, q2⟩ := hp1
        have p2 : PRs s2 (A', A.2 ++ [(A.1.length : Int)]).2 (wfr fs ++ wlv k a o) := ⟨wts_fr w2 ta2 (by omega) (by omega), _, mde_mk m2 mk2, eqr_at rfl q2⟩
        refine settle_1 p2 (fun s3 f3 p3 => ?_)
        obtain ⟨z2, i2, hi2, sk2⟩ := rgs_wt hg2 f3
        have er1 : r1 = .inr (j', ntk k (A', A.2 ++ [(A.1.length : Int)])) := by rw [er0, e9]; rfl
        subst er1
        obtain ⟨r3, g3, hr3⟩ := hr
        exact RTz_3 (fs := fs) (rtx_wt hc2 f3) z2 (by rw [(ntk_1 _ _).1]; exact rat_wt hA2 f3) rfl hd hi2 ⟨j', sk2, Or.inl ⟨rfl, tk2⟩⟩ rfl p3 (Or.inr ⟨j', r3, rfl, g3, hr3⟩)
    · have e91 : nxr tx n j = 91 := (nxr_c (by omega) (by omega)).2 c91
      refine ⟨fun _ => ⟨fun z => absurd z h3, fun _ => ⟨fun z => absurd e91 z, fun _ => ?_⟩⟩, fun z => absurd (e91.symm.trans z) (by omega)⟩
      rw [w32_id (by omega) (by omega)]
      rcases g with ⟨d10, er⟩ | ⟨d10, g⟩
      · subst er
        refine ⟨fun z => absurd z (by omega), fun _ => fail_r hg.1 (by omega) (fun s2 b _ => ?_)⟩
        exact rt_badstep (e := (3, (j : Int))) (by rw [← a4]; exact b) (fun s3 b3 => RTz_bad b3 (zxS_e hr))
      · refine ⟨fun _ => rz_step a4 jn hp1 (fun s2 b4 f2 p2 => ?_), fun z => absurd z (by omega)⟩
        have z2 : s2.1 582 2 = 0 := (f2.1 _ _ (by omega)).trans hg.1
        obtain ⟨fs', hfs⟩ : ∃ fs' : List fr9, fs' = (k, a, o) :: fs := ⟨_, rfl⟩
        have lfs : fs'.length = fs.length + 1 := by rw [hfs]; rfl
        have p3 : PRs s2 A.2 (wfr fs' ++ wlv 0 false false) := by
          rw [wlv_0, List.append_nil, hfs]; exact p2
        rcases g with ⟨e, aq, er⟩ | ⟨j1, aq, g⟩
        · subst er
          exact RTz_1 (k := 0) (fs := fs') (rtx_st hc1 f2) z2 (rat_st hA1 f2) (by omega) (by omega) b4 aq h3 (by omega) (by omega) p3 (Or.inl ⟨e, rfl, zxS_e hr⟩)
        · have key : ∃ r4, Tz tx n 4 0 (fs.length + 1) j1 A r4 ∧ zxS tx n R fs' r4 := by
            rw [hfs]
            rcases g with ⟨e, g4, er⟩ | ⟨j2, B, g4, g2⟩
            · subst er; exact ⟨.inl e, g4, show R = .inl e from zxS_e hr⟩
            · refine ⟨_, g4, ?_⟩
              rcases g2 with ⟨n93, er⟩ | ⟨c93, q, aq2, er⟩
              · subst er; exact Or.inl ⟨n93, zxS_e hr⟩
              · subst er; exact Or.inr ⟨c93, q, aq2, hr⟩
          obtain ⟨r4, g4, hr4⟩ := key
          obtain ⟨r1', g1, hr1⟩ := zte_1 (W := zxS tx n R fs') g4 hr4
          rw [← lfs] at g1 hr1
          exact RTz_1 (k := 0) (fs := fs') (rtx_st hc1 f2) z2 (rat_st hA1 f2) (by omega) (by omega) b4 aq h3 (by omega) (by omega) p3 (Or.inr ⟨j1, r1', rfl, g1, hr1⟩)
theorem rz_285 {tx : Nat → Int} {n j : Nat} {R : ou atz} {l1 l2 l3 l4 : Int} {s : im_S} {Q : im_S → Prop} (hc : rtx tx n s) (hg : rgs tx n s j) (h2 : (j < n → tok (tx j)) → R = .inl (2, (j : Int))) (h1 : j < n → ¬ tok (tx j) → R = .inl (1, (j : Int))) : C_readText10_285 (RTz tx n R) l1 l2 l3 l4 s Q :=
  cannot_r hc hg (fun t s' b _ => RTz_bad b (h2 t)) (fun t u s' b _ => RTz_bad b (h1 t u))
/-- one turn of the loop behind a piece -/
theorem rz_24b {tx : Nat → Int} {n : Nat} {R : ou atz} {l1 l2 l3 : Int} {s : im_S} {Q : im_S → Prop} {A : atz} {a o : Bool} {fs : List fr9} {i : Nat} {q : ou Unit} (hc : rtx tx n s) (h0 : s.1 582 2 = 0) (hA : rat s A.1) (h1 : l1 = (fs.length : Int)) (hd : fs.length ≤ 10) (hi : s.1 582 4 = (i : Int)) (ha : adv tx n i q) (h3 : l3 = 0) (h2 : l2 = 0) (hp : PRs s A.2 (wfr fs ++ wlv 0 a o)) (h : (∃ e, q = .inl e ∧ R = .inl e) ∨ ∃ j r3, q = .inr (j, ()) ∧ Tz tx n 3 0 fs.length j (pshb a 11 A) r3 ∧ zR3 tx n (zxS tx n R fs) fs.length o r3) : C_readText10_24 (RTz tx n R) l1 l2 l3 0 s Q := by
  subst h1; subst h2; subst h3
  refine ⟨fun z => absurd rfl z, fun _ => good_r (fun _ => ⟨fun z => absurd z (by omega), fun _ => ?_⟩) (fun z => absurd h0 z)⟩
  rcases h with ⟨e, eq, eR⟩ | ⟨j, r3, eq, g, hr⟩
  · subst eq
    obtain ⟨j, sk, hj⟩ := ha
    rcases hj with ⟨ej, _⟩ | ⟨ej, jn, nt⟩
    · cases ej
    have ej2 : e = (1, (j : Int)) := by cases ej; rfl
    subst ej2
    refine peek_r hc ⟨i, hi, sk⟩ (fun s1 a4 a2 a3 f1 => ?_)
    have ex : nxr tx n j = tx j := if_pos jn
    rw [ex]
    have hg : rgs tx n s1 j := ⟨a2.trans h0, j, a4, skp_s sk⟩
    have hb : ∀ l4, C_readText10_285 (RTz tx n R) (fs.length : Int) 0 0 l4 s1 Q := fun l4 => rz_285 (rtx_pk hc f1) hg (fun t => absurd (t jn) nt) (fun _ _ => eR)
    have c32 := (hc.2.2.2 j jn).1
    have h272 : C_readText10_272 (RTz tx n R) (fs.length : Int) 0 0 (tx j) s1 Q := ⟨fun _ => hb 1, fun z => absurd z (by omega)⟩
    refine ⟨fun _ => ⟨fun _ => ⟨fun _ => ⟨fun z => absurd (show tok (tx j) by rw [z]; unfold tok dgt; omega) nt, fun _ => ⟨fun _ => ⟨fun _ => h272, fun z => absurd (show tok (tx j) by rw [z]; unfold tok dgt; omega) nt⟩, fun z => absurd (show tok (tx j) by rw [z]; unfold tok dgt; omega) nt⟩⟩, fun z => absurd rfl z⟩, fun z => absurd rfl z⟩, fun z => absurd rfl z⟩
  · subst eq
    obtain ⟨sk, tk⟩ := adv_sk ha
    have jn : j ≤ 400 := by have := sk.2.1; have := hc.2.1; omega
    refine peek_r hc ⟨i, hi, sk⟩ (fun s1 a4 a2 a3 f1 => ?_)
    have hg : rgs tx n s1 j := ⟨a2.trans h0, j, a4, skp_s sk⟩
    have hc1 := rtx_pk hc f1
    have hA1 := rat_pk hA f1
    have hp1 := PRs_pk hp f1
    refine ⟨fun _ => ?_, fun z => absurd rfl z⟩
    obtain ⟨k1, k2, k3⟩ := zre_3 (W := zxS tx n R fs) g hr
    have h38 : nxc tx n j = 38 → C_readText10_173 (RTz tx n R) (fs.length : Int) 0 0 (nxr tx n j) s1 Q := fun z => by
      have e38 : nxr tx n j = 38 := (nxr_c (by omega) (by omega)).2 z
      intro v hv
      rw [e38, if_neg (fun y => y rfl)] at hv
      subst hv
      refine settle_2 hp1 (fun s2 f2 p2 v2 hv2 => ?_)
      rw [e38, if_neg (fun y => y rfl)] at hv2
      subst hv2
      refine rz_step (i := j) ((f2.1 _ _ (by omega)).trans a4) jn p2 (fun s3 b4 f3 p3 => ?_)
      have z3 : s3.1 582 2 = 0 := (f3.1 _ _ (by omega)).trans ((f2.1 _ _ (by omega)).trans hg.1)
      obtain ⟨q, aq, hq⟩ := k1 z
      have p4 : PRs s3 (pshb a 11 A).2 (wfr fs ++ wlv 0 true o) := by
        have e : wfr fs ++ wlv 0 true o = wfr fs ++ bl o (-3) ++ [-2] := by
          unfold wlv
          rw [show List.replicate 0 (-1 : Int) = [] from rfl, List.append_nil, List.append_assoc]; rfl
        rw [e]; exact p3
      refine RTz_1 (k := 0) (fs := fs) (A := pshb a 11 A) (rtx_st (rtx_wt hc1 f2) f3) z3 (by rw [pshb_1]; exact rat_st (rat_wt hA1 f2) f3) rfl hd b4 aq (by omega) rfl (by omega) p4 ?_
      rcases hq with ⟨e, eq, w⟩ | ⟨j1, r1, eq, g1, w⟩
      · exact Or.inl ⟨e, eq, zxS_e w⟩
      · exact Or.inr ⟨j1, r1, eq, g1, w⟩
    have h124 : nxc tx n j = 124 → C_readText10_173 (RTz tx n R) (fs.length : Int) 0 0 (nxr tx n j) s1 Q := fun z => by
      have e124 : nxr tx n j = 124 := (nxr_c (by omega) (by omega)).2 z
      intro v hv
      rw [e124, if_pos (by decide)] at hv
      subst hv
      refine settle_3 hp1 (fun s2 f2 p2 v2 hv2 => ?_)
      rw [e124, if_pos (by decide)] at hv2
      subst hv2
      refine rz_step (i := j) ((f2.1 _ _ (by omega)).trans a4) jn p2 (fun s3 b4 f3 p3 => ?_)
      have z3 : s3.1 582 2 = 0 := (f3.1 _ _ (by omega)).trans ((f2.1 _ _ (by omega)).trans hg.1)
      obtain ⟨q, aq, hq⟩ := k2 z
      have p4 : PRs s3 (pshb o 12 (pshb a 11 A)).2 (wfr fs ++ wlv 0 false true) := p3
      refine RTz_1 (k := 0) (fs := fs) (A := pshb o 12 (pshb a 11 A)) (rtx_st (rtx_wt hc1 f2) f3) z3 (by rw [pshb_1, pshb_1]; exact rat_st (rat_wt hA1 f2) f3) rfl hd b4 aq (by omega) rfl (by omega) p4 ?_
      rcases hq with ⟨e, eq, w⟩ | ⟨j1, r1, eq, g1, w⟩
      · exact Or.inl ⟨e, eq, zxS_e w⟩
      · exact Or.inr ⟨j1, r1, eq, g1, w⟩
    have hcan : R = .inl (2, (j : Int)) → ∀ l4, C_readText10_285 (RTz tx n R) (fs.length : Int) 0 0 l4 s1 Q := fun eR l4 => rz_285 hc1 hg (fun _ => eR) (fun x y => absurd (tk x) y)
    have h139 : C_readText10_139 (RTz tx n R) (fs.length : Int) 0 0 0 (nxr tx n j) s1 Q := by
      refine ⟨fun _ => ⟨fun z => h38 ((nxr_c (by omega) (by omega)).1 z), fun n38 => ⟨fun n124 => ?_, fun z => h124 ((nxr_c (by omega) (by omega)).1 z)⟩⟩, fun z => absurd rfl z⟩
      have w := k3 (fun z => n38 ((nxr_c (by omega) (by omega)).2 z)) (fun z => n124 ((nxr_c (by omega) (by omega)).2 z))
      cases fs with
      | nil =>
        have h272 : C_readText10_272 (RTz tx n R) ((0 : Nat) : Int) 0 0 (nxr tx n j) s1 Q := by
          rcases w with ⟨e0, eR⟩ | ⟨e0, eR⟩
          · have nj : ¬ j < n := fun z => by
              have := (hc.2.2.2 j z).1
              unfold nxc at e0; rw [if_pos z] at e0; omega
            have em : nxr tx n j = -1 := if_neg nj
            rw [em]
            exact ⟨fun z => absurd rfl z, fun _ => ⟨fun _ => Or.inr ⟨hc1, hg.1, A, a, o, hA1, Or.inl ⟨show (1 : Int) ≠ 0 by omega, hp1, j, eR⟩⟩, fun z => absurd (show ((0 : Nat) : Int) ≤ 0 by omega) z⟩⟩
          · have nj : j < n := by
              by_cases z : j < n
              · exact z
              · unfold nxc at e0; rw [if_neg z] at e0; exact absurd rfl e0
            have em : nxr tx n j = tx j := if_pos nj
            have := (hc.2.2.2 j nj).1
            exact ⟨fun _ => hcan eR 1, fun z => absurd z (by omega)⟩
        exact ⟨fun _ => h272, fun _ => ⟨fun _ => h272, fun z => absurd (show ((0 : Nat) : Int) ≤ 0 by omega) z⟩⟩
      | cons f fs =>
        have lf : (f :: fs).length = fs.length + 1 := rfl
        rcases w with ⟨n93, eR⟩ | ⟨c93, q, aq, hq⟩
        · refine ⟨fun _ => ⟨fun _ => hcan eR 1, fun _ => ⟨fun z => absurd z (by omega), fun _ => hcan eR 1⟩⟩, fun z => absurd ((nxr_c (by omega) (by omega)).1 z) n93⟩
        · have e93 : nxr tx n j = 93 := (nxr_c (by omega) (by omega)).2 c93
          refine ⟨fun z => absurd e93 z, fun _ => ⟨fun z => absurd z (by omega), fun _ => ?_⟩⟩
          refine settle_3 hp1 (fun s2 f2 p2 s3 e3 s4 e4 => ?_)
          obtain ⟨w2, rho, m2, q2⟩ := p2
          have f3 : wtf9 s1 s3 := by subst e3; exact gfr_pf f2 ⟨rfl, Or.inr rfl⟩
          have b3 : cgf s3 582 4 = (j : Int) := (f3.1 _ _ (by omega)).trans a4
          have b4 : s4.1 582 4 = ((j + 1 : Nat) : Int) := by rw [e4, cpf_same, b3, w32_id (by omega) (by omega)]; omega
          have f4 : stf9 s1 s4 := by subst e4; exact gfr_pf (stf_wt f3) ⟨rfl, Or.inl rfl⟩
          have lw : (wfr (f :: fs)).length = (wfr fs ++ wlv f.1 f.2.1 f.2.2).length + 1 := by
            show (wfr fs ++ wlv f.1 f.2.1 f.2.2 ++ [-4]).length = _
            rw [List.length_append]; rfl
          have c2 : cgf s2 582 12 = (((wfr fs ++ wlv f.1 f.2.1 f.2.2).length + 1 : Nat) : Int) := by rw [← lw]; exact w2.1
          have bw := w2.2.1
          rw [lw] at bw
          have k12 : s4.1 582 12 = ((wfr fs ++ wlv f.1 f.2.1 f.2.2).length : Int) := by
            rw [e4, cpf_ne (by omega), e3, cpf_same, c2, w32_id (by omega) (by omega)]; omega
          have r4 : s4.2 = s2.2 := by subst e4; subst e3; rfl
          have k10 : s4.1 582 10 = s2.1 582 10 := by rw [e4, cpf_ne (by omega), e3, cpf_ne (by omega)]
          have p4 : PRs s4 (pshb o 12 (pshb a 11 A)).2 (wfr fs ++ wlv f.1 f.2.1 f.2.2) := ⟨⟨k12, by omega, by rw [r4]; exact lrw_pre (l' := [-4]) w2.2.2⟩, rho, ⟨k10.trans m2.1, by rw [r4]; exact m2.2⟩, q2⟩
          refine settle_1 p4 (fun s5 f5 p5 => ?_)
          have b5 : s5.1 582 4 = ((j + 1 : Nat) : Int) := (f5.1 _ _ (by omega)).trans b4
          have z5 : s5.1 582 2 = 0 := (f5.1 _ _ (by omega)).trans ((f4.1 _ _ (by omega)).trans hg.1)
          rw [w32_id (by omega) (by omega)]
          refine RTz_3 (fs := fs) (A := ntk f.1 (pshb o 12 (pshb a 11 A))) (rtx_wt (rtx_st hc1 f4) f5) z5 (by rw [(ntk_1 _ _).1, pshb_1, pshb_1]; exact rat_wt (rat_st hA1 f4) f5) (by omega) (by omega) b5 aq rfl p5 ?_
          cases q with
          | inl e => exact Or.inl ⟨e, rfl, zxS_e hq⟩
          | inr z =>
            obtain ⟨j1, u⟩ := z
            obtain ⟨r3', g3, hr3⟩ := hq
            exact Or.inr ⟨j1, r3', rfl, g3, hr3⟩
    exact ⟨fun _ => h139, fun z => absurd rfl z⟩
/-- readText of the reference, with its program -/
theorem readText_rz {tx : Nat → Int} {n i : Nat} {q : ou Unit} {R : ou atz} {s : im_S} {Q : im_S → Prop} (hc : rtx tx n s) (h0 : s.1 582 2 = 0) (hi : s.1 582 4 = (i : Int)) (aq : adv tx n i q) (hw : (∃ e, q = .inl e ∧ R = .inl e) ∨ ∃ j r4, q = .inr (j, ()) ∧ Tz tx n 4 0 0 j ([], []) r4 ∧ zxS tx n R [] r4) (hQ1 : ∀ e s', rbd s' e → R = .inl e → Q s') (hQ2 : ∀ s' j A, s'.1 582 2 = 0 → R = .inr (j, A) → rat s' A.1 → PRs s' A.2 [] → Q s') : C_readText10 s Q := by
  intro s1 e1 s2 e2 s3 e3
  have k3 : ∀ f, f ≠ 6 → f ≠ 10 → f ≠ 12 → s3.1 582 f = s.1 582 f := fun f x y z => by
    rw [e3, cpf_ne (by omega), e2, cpf_ne (by omega), e1, cpf_ne (by omega)]
  have r3 : s3.2 = s.2 := by subst e3; subst e2; subst e1; rfl
  have k10 : s3.1 582 10 = 0 := by rw [e3, cpf_ne (by omega), e2, cpf_ne (by omega), e1, cpf_same]
  have k12 : s3.1 582 12 = 0 := by rw [e3, cpf_ne (by omega), e2, cpf_same]
  have p0 : PRs s3 [] (wfr [] ++ wlv 0 false false) := ⟨⟨k12, by show ((0 : Nat) : Int) ≤ _; omega, fun i c e => by cases e⟩, [], ⟨k10, fun i c e => by cases e⟩, eqp_r _, fun c hc => by cases hc⟩
  refine ⟨RTz tx n R, ?_, fun a I => ?_⟩
  · refine RTz_1 (A := ([], [])) (fs := []) (k := 0) (q := q) ?_ ((k3 2 (by omega) (by omega) (by omega)).trans h0) ?_ rfl (by decide) ((k3 4 (by omega) (by omega) (by omega)).trans hi) aq (by omega) rfl (by omega) p0 ?_
    · obtain ⟨x, y, z, w⟩ := hc
      exact ⟨(k3 1 (by omega) (by omega) (by omega)).trans x, y, by rw [r3]; exact z, w⟩
    · exact ⟨by rw [e3, cpf_same]; rfl, by decide, fun i p w e => by cases e⟩
    · rcases hw with h | ⟨j, r4, eq, g, w⟩
      · exact Or.inl h
      · obtain ⟨r1, g1, hr⟩ := zte_1 (W := zxS tx n R []) g w
        exact Or.inr ⟨j, r1, eq, g1, hr⟩
  · obtain ⟨l1, l2, l3, l4, s⟩ := a
    have I0 := I
    rcases I with ⟨e, b, eR⟩ | ⟨hc, h0, A, a, o, hA, h | ⟨h4, fs, i, q, h1, hd, hi, ha, h | h⟩⟩
    · exact ⟨fun z => rz_292 I0 (Or.inl z) hQ1 hQ2, fun _ => good_r (fun z => absurd (b.1.symm.trans z) b.2.1) (fun z => ⟨fun _ => rz_292 I0 (Or.inr z) hQ1 hQ2, fun z => absurd rfl z⟩)⟩
    · exact ⟨fun z => rz_292 I0 (Or.inl z) hQ1 hQ2, fun z => absurd z h.1⟩
    · obtain ⟨h3, k, h2, hk, hp, h⟩ := h
      have h4' : l4 = 0 := h4
      subst h4'
      exact rz_24a hc h0 hA h1 hd hi ha h3 h2 hk hp h
    · obtain ⟨h3, h2, hp, h⟩ := h
      have h4' : l4 = 0 := h4
      subst h4'
      exact rz_24b hc h0 hA h1 hd hi ha h3 h2 hp h
