/-! compareDeeply BY VALUE -/
theorem rN9_wk {s s' : im_S} {j o : Nat} {P : List Int} {c0 : Rat → Int} (h : rN9 s j o P c0) (hj : j < 80) (f : wkf s s') : rN9 s' j o P c0 := rN9_co h f (fun k _ => by omega) (fun k => by omega) (by omega)
theorem rN9_tg {s s' : im_S} {i j o : Nat} {P : List Int} {c0 : Rat → Int} (h : rN9 s j o P c0) (hj : j < 80) (ne : j ≠ i) (f : tgf i s s') : rN9 s' j o P c0 := rN9_co h f (fun k _ => by unfold tgF; omega) (fun k => by unfold tgF; omega) (by unfold tgR; omega)
theorem rN9_bt {s : im_S} {j o : Nat} {P : List Int} {c0 : Rat → Int} (h : rN9 s j o P c0) : 32 ≤ s.1 (311 + 3 * j) 7 ∧ s.1 (311 + 3 * j) 7 ≤ 640 ∧ 1 ≤ s.1 (311 + 3 * j) 8 ∧ s.1 (311 + 3 * j) 8 ≤ 2000 ∧ s.1 (311 + 3 * j) 0 = (o : Int) := by
  obtain ⟨c, b, t, ⟨_, f0, l1, l2, _⟩, _, ⟨rs, cb, b32⟩, _⟩ := rNx_of h
  have e := rs.1
  have := cb.2.1
  exact ⟨by omega, by omega, l1, l2, f0⟩
theorem BF_deg {s : im_S} {n mm o : Nat} {D : Int} {p : Nat → List Int} {M : Nat → Nat → Nat} (hB : BI s n D) (hF : BF s n p M mm) (ho : o < n) : ∃ d, 1 ≤ d ∧ pdb (p o) (d + 1) ∧ pgt (p o) d ≠ 0 := by
  obtain ⟨P, _, _, h3⟩ := hB.2.2.1 o ho
  have hP := (hF.1 o ho).1
  obtain ⟨d, hd⟩ : ∃ d : Nat, s.1 (86 + 2 * o) 0 = (d : Int) := ⟨(s.1 (86 + 2 * o) 0).toNat, by omega⟩
  have h4 := hP.2.2.2.1
  rw [hd, show ((d : Int) + 1).toNat = d + 1 by omega] at h4
  have h5 := hP.2.2.2.2 (by omega)
  rw [hd, Int.toNat_natCast] at h5
  exact ⟨d, by omega, h4, h5⟩
theorem no_same {s : im_S} {n mm o o' : Nat} {D : Int} {p : Nat → List Int} {M : Nat → Nat → Nat} (hB : BI s n D) (hF : BF s n p M mm) (ho : o < n) (ho' : o' < n) (ne : o ≠ o') (c t t' : Int) (h : iso (p o) (xv c 640) (xv (c + 1) 640) t) (h' : iso (p o') (xv c 640) (xv (c + 1) 640) t') : False := by
  obtain ⟨a, a1, a2, a3⟩ := BF_deg hB hF ho
  obtain ⟨b, b1, b2, b3⟩ := BF_deg hB hF ho'
  exact apart (hF.1 o ho).2.1 a2 a3 a1 (hF.1 o' ho').2.1 b2 b3 b1 (hF.2.1 o o' ho ho' ne) (iso_n h) (iso_n h')
/-- one look: the wide one against the thin one -/
theorem dp_turn {s : im_S} {iw it ow ot9 : Nat} {cw ct : Rat → Int} {Pw Pt : List Int} {R1 R2 R3 R4 : im_S → Prop} (hw : iw < 80) (ht : it < 80) (hW : rN9 s iw ow Pw cw) (hT : rN9 s it ot9 Pt ct) (hle : s.1 (311 + 3 * iw) 7 ≤ s.1 (311 + 3 * it) 7) (hno : ∀ c t t' : Int, iso Pw (xv c 640) (xv (c + 1) 640) t → iso Pt (xv c 640) (xv (c + 1) 640) t' → False) (k1 : ∀ s', wkf s s' → lft9 ct cw → R1 s') (k2 : ∀ s', wkf s s' → lft9 cw ct → R2 s') (k3 : ∀ s', wkf s s' → s'.1 (311 + 3 * iw) 7 < 640 → R3 s') : C_copy1 555 (311 + 3 * iw + 1) s (fun s1 => C_shiftUp1 555 (w32 (cgf s (311 + 3 * it) 7 - cgf s (311 + 3 * iw) 7)) s1 (fun s2 => C_copy1 557 (311 + 3 * it + 1) s2 (fun s3 => C_add1 557 555 (-1) s3 (fun s4 => (0 ≤ cgf s4 557 2 → C_bits1 557 s4 (fun z s5 => (w32 (cgf s (311 + 3 * it) 7 - cgf s (311 + 3 * iw) 7) < z → R2 s5) ∧ (¬ (w32 (cgf s (311 + 3 * it) 7 - cgf s (311 + 3 * iw) 7) < z) → ((cgf s5 (311 + 3 * iw) 7 < 640 → R3 s5) ∧ (¬ (cgf s5 (311 + 3 * iw) 7 < 640) → R4 s5))))) ∧ (¬ (0 ≤ cgf s4 557 2) → R1 s4))))) := by
  have gv := gln_v
  have gd557 : gln 558 = 24 := gv.2.2.2.2.2.2.2.2.1
  have gd555 : gln 556 = 24 := gv.2.2.2.2.2.2.2.1
  obtain ⟨c, b, t, _, ⟨cc, _, _⟩, ⟨rs, cb, b32⟩, ⟨is, cl, cr⟩, _⟩ := rNx_of hW
  obtain ⟨c', b', t', _, ⟨cc', _, _⟩, ⟨rs', cb', b32'⟩, ⟨is', cl', cr'⟩, _⟩ := rNx_of hT
  rw [rs.1, rs'.1] at hle
  have m1 := cb.2.1
  have m2 := cb'.2.1
  rw [show cgf s (311 + 3 * it) 7 = b' from rs'.1, show cgf s (311 + 3 * iw) 7 = b from rs.1, w32_id (x := b' - b) (by omega) (by omega)]
  obtain ⟨z1, z2⟩ := cbd_W cb
  obtain ⟨z1', z2'⟩ := cbd_W cb'
  have e33 : (2 : Int) ^ (b + 33).toNat * 2 ^ (b' - b).toNat = 2 ^ (b' + 33).toNat := by rw [← Int.pow_add]; congr 1; omega
  have pW := p2W (n := (b' + 33).toNat) (by omega)
  have pl := p2p (b' - b).toNat
  have cA : (c.natAbs : Int) * 2 ^ (b' - b).toNat ≤ 2 ^ (b' + 33).toNat := by
    rw [← e33]; exact Int.mul_le_mul_of_nonneg_right z1 (by omega)
  have cA' : ((c * 2 ^ (b' - b).toNat).natAbs : Int) = (c.natAbs : Int) * 2 ^ (b' - b).toNat := by rw [Int.natAbs_mul, Int.natCast_mul, Int.natAbs_pow, Int.natCast_pow]; rfl
  have up := xv_up c b (lp := b' - b) (by omega)
  have up1 := xv_up (c + 1) b (lp := b' - b) (by omega)
  rw [show b + (b' - b) = b' by omega] at up up1
  have e1 : (c + 1) * 2 ^ (b' - b).toNat = c * 2 ^ (b' - b).toNat + 2 ^ (b' - b).toNat := by rw [Int.add_mul, Int.one_mul]
  rw [e1] at up1
  refine copy_b rs.2 (by omega) (by rw [rm555]; omega) (by rw [gd555]; decide) (fun s1 h1 f1 => ?_)
  refine shiftUp_b h1 (by omega) (by rw [gd555]; decide) (by rw [gd555]; decide) (by rw [rm555]; omega) (fun s2 h2 f2 => ?_)
  have T2 : big s2 (311 + 3 * it + 1) c' := big_fr (big_fr rs'.2 f1 (by omega)) f2 (by omega)
  refine copy_b T2 (by omega) (by rw [rm557]; omega) (by rw [gd557]; decide) (fun s3 h3 f3 => ?_)
  have h23 := big_fr h2 f3 (by decide)
  refine add_b h3 h23 (by decide) (by rw [gd557]; decide) (Or.inr rfl) (by rw [rm557, cA']; omega) (fun s4 h4 f4 => ?_)
  have w4 : wkf s s4 := wkf_b (wkf_b (wkf_b (wkf_b (gfr_refl _ _ _) f1 (by omega) (by omega)) f2 (by omega) (by omega)) f3 (by omega) (by omega)) f4 (by omega) (by omega)
  rw [show cgf s4 557 2 = (c' + -1 * (c * 2 ^ (b' - b).toNat)).sign from big_mk h4]
  generalize hX : c * 2 ^ (b' - b).toNat = X at h4 up up1
  refine ⟨fun pos => ?_, fun neg => k1 s4 w4 ⟨xv (c' + 1) b', Or.inl ⟨cr', cut_le1 cc cl ?_⟩⟩⟩
  · have E0 : 0 ≤ c' + -1 * X := Int.sign_nonneg_iff.1 pos
    refine bits_b h4 (by rw [gd557]; decide) (fun z hz => ⟨fun gz => k2 s4 w4 ⟨xv c' b', Or.inl ⟨cut_ge1 cc cr ?_, cl'⟩⟩, fun gz => ⟨fun l6 => k3 s4 w4 l6, fun l6 => ?_⟩⟩)
    · rcases hz with ⟨_, ez⟩ | ⟨y1, y2, _⟩
      · omega
      · have mo := p2mono (a := (b' - b).toNat) (b := (z - 1).toNat) (by omega)
        rw [← up1]
        exact xv_le b' (by omega)
    · exfalso
      have e6 : cgf s4 (311 + 3 * iw) 7 = b := by show s4.1 _ _ = _; rw [w4.1 _ _ (by omega)]; exact rs.1
      rw [e6] at l6
      have b6 : b = 640 := by omega
      have b6' : b' = 640 := by omega
      subst b6
      subst b6'
      rw [show ((640 : Int) - 640).toNat = 0 from rfl, Int.pow_zero, Int.mul_one] at hX
      subst hX
      have : c' = c := by
        rcases hz with ⟨ez, _⟩ | ⟨y1, _, _⟩
        · omega
        · omega
      subst this
      exact hno c' t t' is is'
  · have E0 : ¬ 0 ≤ c' + -1 * X := fun k => neg (Int.sign_nonneg_iff.2 k)
    rw [← up]
    exact xv_le b' (by omega)
def dpf (ia ib : Nat) (s s' : im_S) : Prop := gfr (fun c f => tgF ia c f ∨ tgF ib c f) (fun c => tgR ia c ∨ tgR ib c) s s'
theorem dpf_wk {ia ib : Nat} {s s' : im_S} (h : wkf s s') : dpf ia ib s s' := gfr_mono h (fun c f e => Or.inl (by unfold tgF; omega)) (fun c e => Or.inl (by unfold tgR; omega))
theorem dpf_1 {ia ib : Nat} {s s' : im_S} (h : tgf ia s s') : dpf ia ib s s' := gfr_mono h (fun c f e => Or.inl e) (fun c e => Or.inl e)
theorem dpf_2 {ia ib : Nat} {s s' : im_S} (h : tgf ib s s') : dpf ia ib s s' := gfr_mono h (fun c f e => Or.inr e) (fun c e => Or.inr e)
/-- what stays true of the two roots -/
def DPI (s : im_S) (n mm ia ib oa ob : Nat) (D : Int) (p : Nat → List Int) (M : Nat → Nat → Nat) (ca cb : Rat → Int) (s' : im_S) : Prop := rN9 s' ia oa (p oa) ca ∧ rN9 s' ib ob (p ob) cb ∧ BI s' n D ∧ BF s' n p M mm ∧ (∃ lo hi mi ot, fq s' lo hi mi ot) ∧ big s' 553 1 ∧ dpf ia ib s s'
theorem DPI_wk {s s1 s2 : im_S} {n mm ia ib oa ob : Nat} {D : Int} {p : Nat → List Int} {M : Nat → Nat → Nat} {ca cb : Rat → Int} (ha : ia < 80) (hb : ib < 80) (h : DPI s n mm ia ib oa ob D p M ca cb s1) (w : wkf s1 s2) : DPI s n mm ia ib oa ob D p M ca cb s2 := by
  obtain ⟨A1, B1, I1, F1, ⟨lo, hi, mi, ot, f1⟩, o1, g1⟩ := h
  have n80 := I1.2.1
  exact ⟨rN9_wk A1 ha w, rN9_wk B1 hb w, BI_co I1 w (fun e he => by omega) (fun e he => by omega) (by omega) (dI_co I1.2.2.2.2 w (by omega) (by omega)), BF_co F1 w n80 (fun e he => by omega) (fun e he => by omega) (by omega), ⟨lo, hi, mi, ot, fq_co f1 w (fun k => by omega)⟩, big_g o1 w (by omega) (by omega) (by omega), gfr_trans g1 (dpf_wk w)⟩
theorem deeply_v {s : im_S} {n mm ia ib oa ob : Nat} {D : Int} {p : Nat → List Int} {M : Nat → Nat → Nat} {ca cb : Rat → Int} {Q : Int → im_S → Prop} (ha : ia < 80) (hb : ib < 80) (ne : ia ≠ ib) (hoa : oa < n) (hob : ob < n) (oab : oa ≠ ob) (h : DPI s n mm ia ib oa ob D p M ca cb s) (hQ : ∀ z s', DPI s n mm ia ib oa ob D p M ca cb s' → ((z = 1 ∧ lft9 cb ca) ∨ (z = -1 ∧ lft9 ca cb)) → Q z s') : C_compareDeeply3 (311 + 3 * ia) (311 + 3 * ib) s Q := by
  have t1 := rN9_bt h.1
  have t2 := rN9_bt h.2.1
  refine ⟨fun a => ∃ k : Nat, a.1 = (k : Int) ∧ (k : Int) ≤ a.2.1 (311 + 3 * ia) 7 + a.2.1 (311 + 3 * ib) 7 ∧ DPI s n mm ia ib oa ob D p M ca cb a.2, ⟨0, rfl, by dsimp only; omega, h⟩, ?_⟩
  rintro ⟨x, s1⟩ ⟨k, ex, kb, h1⟩
  dsimp only at ex kb h1 ⊢
  subst ex
  have u1 := rN9_bt h1.1
  have u2 := rN9_bt h1.2.1
  have I1 := h1.2.2.1
  have F1 := h1.2.2.2.1
  refine ⟨fun z => by omega, fun _ v ev wi ew th et => ?_⟩
  by_cases c : cgf s1 (311 + 3 * ib) 7 < cgf s1 (311 + 3 * ia) 7
  · rw [if_pos c] at ev
    subst ev
    rw [if_pos rfl] at ew et
    subst ew
    subst et
    refine dp_turn hb ha h1.2.1 h1.1 (Int.le_of_lt c) (no_same I1 F1 hob hoa (fun z => oab z.symm)) (fun s2 w2 lf v ev => ?_) (fun s2 w2 lf v ev => ?_) (fun s2 w2 b6 => ?_)
    · rw [if_pos rfl] at ev
      exact hQ v s2 (DPI_wk ha hb h1 w2) (Or.inr ⟨ev, lf⟩)
    · rw [if_pos rfl] at ev
      exact hQ v s2 (DPI_wk ha hb h1 w2) (Or.inl ⟨ev, lf⟩)
    · obtain ⟨A2, B2, I2, F2, f2, o2, g2⟩ := DPI_wk ha hb h1 w2
      have y := rN9_bt B2
      rw [show cgf s2 (311 + 3 * ib) 0 = (ob : Int) from y.2.2.2.2, Int.toNat_natCast]
      have q1 : s2.1 (311 + 3 * ia) 7 = s1.1 (311 + 3 * ia) 7 := w2.1 _ _ (by omega)
      have q2 : s2.1 (311 + 3 * ib) 7 = s1.1 (311 + 3 * ib) 7 := w2.1 _ _ (by omega)
      have ewt : w32 (cgf s2 (311 + 3 * ib) 7 + cgf s2 (311 + 3 * ib) 8) = s2.1 (311 + 3 * ib) 7 + s2.1 (311 + 3 * ib) 8 := w32_id (by show _ ≤ s2.1 _ _ + s2.1 _ _; omega) (by show s2.1 _ _ + s2.1 _ _ ≤ _; omega)
      rw [ewt]
      refine tighten_n hb I2 F2 hob B2 f2 o2 (fun s3 B3 bt3 I3 F3 f3 o3 g3 => ⟨k + 1, by dsimp only; rw [w32_id (by omega) (by omega)]; omega, ?_, rN9_tg A2 ha ne g3, B3, I3, F3, f3, o3, gfr_trans g2 (dpf_2 g3)⟩)
      have q3 : s3.1 (311 + 3 * ia) 7 = s2.1 (311 + 3 * ia) 7 := g3.1 _ _ (by unfold tgF; omega)
      dsimp only
      omega
  · rw [if_neg c] at ev
    subst ev
    rw [if_neg (by decide)] at ew et
    subst ew
    subst et
    refine dp_turn ha hb h1.1 h1.2.1 (Int.not_lt.1 c) (no_same I1 F1 hoa hob oab) (fun s2 w2 lf v ev => ?_) (fun s2 w2 lf v ev => ?_) (fun s2 w2 b6 => ?_)
    · rw [if_neg (by decide)] at ev
      exact hQ v s2 (DPI_wk ha hb h1 w2) (Or.inl ⟨ev, lf⟩)
    · rw [if_neg (by decide)] at ev
      exact hQ v s2 (DPI_wk ha hb h1 w2) (Or.inr ⟨ev, lf⟩)
    · obtain ⟨A2, B2, I2, F2, f2, o2, g2⟩ := DPI_wk ha hb h1 w2
      have y := rN9_bt A2
      rw [show cgf s2 (311 + 3 * ia) 0 = (oa : Int) from y.2.2.2.2, Int.toNat_natCast]
      have q1 : s2.1 (311 + 3 * ia) 7 = s1.1 (311 + 3 * ia) 7 := w2.1 _ _ (by omega)
      have q2 : s2.1 (311 + 3 * ib) 7 = s1.1 (311 + 3 * ib) 7 := w2.1 _ _ (by omega)
      have ewt : w32 (cgf s2 (311 + 3 * ia) 7 + cgf s2 (311 + 3 * ia) 8) = s2.1 (311 + 3 * ia) 7 + s2.1 (311 + 3 * ia) 8 := w32_id (by show _ ≤ s2.1 _ _ + s2.1 _ _; omega) (by show s2.1 _ _ + s2.1 _ _ ≤ _; omega)
      rw [ewt]
      refine tighten_n ha I2 F2 hoa A2 f2 o2 (fun s3 A3 bt3 I3 F3 f3 o3 g3 => ⟨k + 1, by dsimp only; rw [w32_id (by omega) (by omega)]; omega, ?_, A3, rN9_tg B2 hb (fun z => ne z.symm) g3, I3, F3, f3, o3, gfr_trans g2 (dpf_1 g3)⟩)
      have q3 : s3.1 (311 + 3 * ib) 7 = s2.1 (311 + 3 * ib) 7 := g3.1 _ _ (by unfold tgF; omega)
      dsimp only
      omega
