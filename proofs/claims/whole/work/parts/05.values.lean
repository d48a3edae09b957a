/-! the value of one formula: the class, the reference -/
theorem xv_1 {post : Int32 → Prop} {c q : Nat} {x F p0 : Int32} {fm fz : Int32} {a mk d ki op le ri va st : Nat → Int32} (hc : c ≤ 3) (hq : q < 7) (e0 : p0 = nI q) (hF : F = fr_sa a d c 255) (hp : post (fr_v1 a d c q x)) : wpX_valueOfOne post (nI c, fm, fz, a, mk, d, ki, op, le, ri, va, st) p0 x F := by
  subst hF e0
  have h : q = 0 ∨ q = 1 ∨ q = 2 ∨ q = 3 ∨ q = 4 ∨ q = 5 ∨ q = 6 := by omega
  rcases h with h | h | h | h | h | h | h <;> subst h
  · exact nm_e (br_f (by decide) (br_f (by decide) (br_t (by decide) hp)))
  · exact nm_e (br_f (by decide) (br_f (by decide) (br_f (by decide) (br_t (by decide) (xb_w rfl hp)))))
  · exact nm_e (br_f (by decide) (br_f (by decide) (br_f (by decide) (br_f (by decide) (br_t (by decide) (xu_w rfl hp))))))
  · exact nm_e (br_f (by decide) (br_f (by decide) (br_f (by decide) (br_f (by decide) (br_f (by decide) (br_t (by decide) (xs_w hc rfl hp)))))))
  · exact nm_e (br_f (by decide) (br_f (by decide) (br_f (by decide) (br_f (by decide) (br_f (by decide) (br_f (by decide) (br_t (by decide) (xb_w rfl hp))))))))
  · exact nm_e (br_f (by decide) (br_f (by decide) (br_f (by decide) (br_f (by decide) (br_f (by decide) (br_f (by decide) (br_f (by decide) (br_t (by decide) (xs_w hc rfl hp)))))))))
  · exact nm_e (br_f (by decide) (br_f (by decide) (br_f (by decide) (br_f (by decide) (br_f (by decide) (br_f (by decide) (br_f (by decide) (br_f (by decide) (br_t (by decide) (xu_w rfl hp))))))))))
theorem xv_2 {post : Int32 → Prop} {c q : Nat} {x y F p0 : Int32} {fm fz : Int32} {a mk d ki op le ri va st : Nat → Int32} (hc : c ≤ 3) (hq : q < 4) (e0 : p0 = nI q) (hF : F = fr_sa a d c 255) (hp : post (fr_v2 a d c q x y)) : wpX_valueOfTwo post (nI c, fm, fz, a, mk, d, ki, op, le, ri, va, st) p0 x y F := by
  subst hF e0
  have h : q = 0 ∨ q = 1 ∨ q = 2 ∨ q = 3 := by omega
  rcases h with h | h | h | h <;> subst h
  · exact nm_e (br_f (by decide) (br_f (by decide) (br_t (by decide) hp)))
  · exact nm_e (br_f (by decide) (br_f (by decide) (br_f (by decide) (br_t (by decide) hp))))
  · exact nm_e (br_f (by decide) (br_f (by decide) (br_f (by decide) (br_f (by decide) (br_t (by decide) (xu_w rfl hp))))))
  · exact nm_e (br_f (by decide) (br_f (by decide) (br_f (by decide) (br_f (by decide) (br_f (by decide) (br_t (by decide) (xs_w hc rfl (xu_w rfl hp))))))))
theorem yv_1 {post : Int32 → Prop} {c q : Nat} {x p0 : Int32} {fm fz : Int32} {a mk d kn fi se sv st : Nat → Int32} (hc : c ≤ 3) (hq : q < 7) (e0 : p0 = nI q) (hx : fr_sub x 255) (hp : post (fr_v1 a d c q x)) : wpY_ofOne post (nI c, fm, fz, a, mk, d, kn, fi, se, sv, st) p0 x := by
  subst e0
  have h : q = 0 ∨ q = 1 ∨ q = 2 ∨ q = 3 ∨ q = 4 ∨ q = 5 ∨ q = 6 := by omega
  refine ys_w hc (fr_refl 255) rfl ?_
  rcases h with h | h | h | h | h | h | h <;> subst h
  · exact br_t (by decide) hp
  · exact br_f (by decide) (br_t (by decide) (yb_w rfl hp))
  · exact br_f (by decide) (br_f (by decide) (br_t (by decide) (yu_w rfl hp)))
  · exact br_f (by decide) (br_f (by decide) (br_f (by decide) (br_t (by decide) (ys_w hc hx rfl hp))))
  · exact br_f (by decide) (br_f (by decide) (br_f (by decide) (br_f (by decide) (br_t (by decide) (yb_w rfl hp)))))
  · exact br_f (by decide) (br_f (by decide) (br_f (by decide) (br_f (by decide) (br_f (by decide) (br_t (by decide) (ys_w hc (fr_nt_8 x) rfl hp))))))
  · exact br_f (by decide) (br_f (by decide) (br_f (by decide) (br_f (by decide) (br_f (by decide) (br_f (by decide) (yu_w rfl hp))))))
theorem yv_2 {post : Int32 → Prop} {c q : Nat} {x y p0 : Int32} {fm fz : Int32} {a mk d kn fi se sv st : Nat → Int32} (hc : c ≤ 3) (hq : q < 4) (e0 : p0 = nI q) (hp : post (fr_v2 a d c q x y)) : wpY_ofTwo post (nI c, fm, fz, a, mk, d, kn, fi, se, sv, st) p0 x y := by
  subst e0
  have h : q = 0 ∨ q = 1 ∨ q = 2 ∨ q = 3 := by omega
  rcases h with h | h | h | h <;> subst h
  · exact br_f (by decide) (br_t (by decide) hp)
  · exact br_f (by decide) (br_f (by decide) hp)
  · exact br_t (by decide) (ys_w hc (fr_refl 255) rfl (br_t (by decide) (yu_w rfl hp)))
  · refine br_t (by decide) (ys_w hc (fr_refl 255) rfl (br_f (by decide) ?_))
    have e : fr_v2 a d c 3 x y = (255 &&& (fr_un a (fr_nt y) (fr_nt y &&& (x ^^^ (-1)) &&& fr_sa a d c 255) ^^^ (-1))) &&& (fr_sa a d c (fr_nt y) ^^^ (-1)) := (fr_y3b _ _).symm
    rw [e] at hp
    exact yu_w (g := fr_nt y &&& (x ^^^ (-1)) &&& fr_sa a d c 255) (by rw [← fr_y3a]; rfl) (ys_w hc (fr_nt_8 y) rfl hp)
/-! all formulas -/
def fr_cd (k q : Nat) : Nat := if k = 0 then 20 + q else if k = 1 then q else 10 + q
theorem xw_loop {post : SX → Prop} {c m : Nat} {fz F : Int32} {a mk d ki op le ri st : Nat → Int32} {kd qq ll rr : Nat → Nat} (hc : c ≤ 3) (hm : m ≤ 20) (hF : F = fr_sa a d c 255) (ok : ∀ i, i < m → fr_ok i (kd i) (qq i) (ll i) (rr i)) (hk : ∀ i, i < m → ki i = nI (kd i) ∧ op i = nI (qq i) ∧ le i = nI (ll i) ∧ ri i = nI (rr i)) (hp : ∀ w, fr_gd a mk d c kd qq ll rr m w → post (nI c, nI m, fz, a, mk, d, ki, op, le, ri, w, st)) : ∀ r i w, i + r = m → fr_gd a mk d c kd qq ll rr i w → wX_workOutFormulas_10 post F (nI c) (nI m) fz (r + 1) (nI i) a mk d ki op le ri w st := by
  intro r
  induction r with
  | zero =>
    intro i w hi hg
    have e : i = m := by omega
    subst e
    exact br_t (nI_le (Nat.le_refl _) (by omega)) (hp w hg)
  | succ r ih =>
    intro i w hi hg
    have him : i < m := by omega
    have hv : vp_in (nI i) 20 := vp_in_nI (by omega) (by decide)
    have hcl : (nI i).toNatClampNeg = i := nI_clamp (by omega)
    obtain ⟨k1, k2, k3, k4⟩ := hk i him
    have o := ok i him
    have go : ∀ v, v = fr_val a mk d c (kd i) (qq i) (w (ll i)) (w (rr i)) → wX_workOutFormulas_10 post F (nI c) (nI m) fz (r + 1) (nI (i + 1)) a mk d ki op le ri (upd w i v) st := fun v hv => ih (i + 1) _ (by omega) (fr_gd_s (fun j hj => ok j (by omega)) hg hv)
    obtain ⟨ol, or, o⟩ := o
    have h3 : vp_in (le (nI i).toNatClampNeg) 20 := by rw [hcl, k3]; exact vp_in_nI ol (by decide)
    have h4 : vp_in (ri (nI i).toNatClampNeg) 20 := by rw [hcl, k4]; exact vp_in_nI or (by decide)
    have e3 : w (le (nI i).toNatClampNeg).toNatClampNeg = w (ll i) := by rw [hcl, k3, nI_clamp (by omega)]
    have e4 : w (ri (nI i).toNatClampNeg).toNatClampNeg = w (rr i) := by rw [hcl, k4, nI_clamp (by omega)]
    have e2 : op (nI i).toNatClampNeg = nI (qq i) := by rw [hcl, k2]
    have e1 : ki (nI i).toNatClampNeg = nI (kd i) := by rw [hcl, k1]
    refine br_f (nI_ge him (by omega)) ⟨hv, nm_r e2 ⟨hv, h3, nm_r e3 ⟨hv, h4, nm_r e4 ⟨hv, ?_⟩⟩⟩⟩
    rcases o with ⟨o, oq⟩ | ⟨o, oq, _⟩ | ⟨o, oq, _⟩
    · refine br_t (by rw [e1, o]; rfl) ⟨vp_in_nI oq (by decide), hv, nm_r (e' := upd w i (mk (qq i))) (by rw [hcl, nI_clamp (by omega)]) (nm_r (nI_1 i) (go _ ?_))⟩
      rw [o]; rfl
    · refine br_f (by rw [e1, o]; decide) ⟨hv, br_t (by rw [e1, o]; rfl) (xv_1 hc oq rfl hF ⟨hv, nm_r (e' := upd w i (fr_v1 a d c (qq i) (w (ll i)))) (by rw [hcl]) (nm_r (nI_1 i) (go _ ?_))⟩)⟩
      rw [o]; rfl
    · refine br_f (by rw [e1, o]; decide) ⟨hv, br_f (by rw [e1, o]; decide) (xv_2 hc oq rfl hF ⟨hv, nm_r (e' := upd w i (fr_v2 a d c (qq i) (w (ll i)) (w (rr i)))) (by rw [hcl]) (nm_r (nI_1 i) (go _ ?_))⟩)⟩
      rw [o]; rfl
theorem xw_w {post : SX → Prop} {c m : Nat} {fz : Int32} {a mk d ki op le ri va st : Nat → Int32} {kd qq ll rr : Nat → Nat} (hc : c ≤ 3) (hm : m ≤ 20) (ok : ∀ i, i < m → fr_ok i (kd i) (qq i) (ll i) (rr i)) (hk : ∀ i, i < m → ki i = nI (kd i) ∧ op i = nI (qq i) ∧ le i = nI (ll i) ∧ ri i = nI (rr i)) (hp : ∀ w, fr_gd a mk d c kd qq ll rr m w → post (nI c, nI m, fz, a, mk, d, ki, op, le, ri, w, st)) : wpX_workOutFormulas post (nI c, nI m, fz, a, mk, d, ki, op, le, ri, va, st) :=
  xs_w hc rfl ⟨m + 1, xw_loop hc hm rfl ok hk hp m 0 va (by omega) (fr_gd_0 a mk d c kd qq ll rr va)⟩
theorem yw_loop {post : SY → Prop} {c m : Nat} {fz : Int32} {a mk d kn fi se st : Nat → Int32} {kd qq ll rr : Nat → Nat} (hc : c ≤ 3) (hm : m ≤ 20) (h8 : ∀ i, fr_sub (mk i) 255) (ok : ∀ i, i < m → fr_ok i (kd i) (qq i) (ll i) (rr i)) (hk : ∀ i, i < m → kn i = nI (fr_cd (kd i) (qq i)) ∧ fi i = nI (ll i) ∧ se i = nI (rr i)) (hp : ∀ w, fr_gd a mk d c kd qq ll rr m w → post (nI c, nI m, fz, a, mk, d, kn, fi, se, w, st)) : ∀ r i w, i + r = m → fr_gd a mk d c kd qq ll rr i w → wY_findSets_2 post (nI c) (nI m) fz (r + 1) (nI i) a mk d kn fi se w st := by
  intro r
  induction r with
  | zero =>
    intro i w hi hg
    have e : i = m := by omega
    subst e
    exact br_t (nI_le (Nat.le_refl _) (by omega)) (hp w hg)
  | succ r ih =>
    intro i w hi hg
    have him : i < m := by omega
    have hv : vp_in (nI i) 20 := vp_in_nI (by omega) (by decide)
    have hcl : (nI i).toNatClampNeg = i := nI_clamp (by omega)
    obtain ⟨k1, k2, k3⟩ := hk i him
    have o := ok i him
    have go : ∀ v, v = fr_val a mk d c (kd i) (qq i) (w (ll i)) (w (rr i)) → wY_findSets_2 post (nI c) (nI m) fz (r + 1) (nI (i + 1)) a mk d kn fi se (upd w i v) st := fun v hv => ih (i + 1) _ (by omega) (fr_gd_s (fun j hj => ok j (by omega)) hg hv)
    have g8 := fr_gd_8 h8 (fun j hj => ok j (by omega)) hg
    obtain ⟨ol, or, o⟩ := o
    have h3 : vp_in (fi (nI i).toNatClampNeg) 20 := by rw [hcl, k2]; exact vp_in_nI ol (by decide)
    have h4 : vp_in (se (nI i).toNatClampNeg) 20 := by rw [hcl, k3]; exact vp_in_nI or (by decide)
    have e3 : w (fi (nI i).toNatClampNeg).toNatClampNeg = w (ll i) := by rw [hcl, k2, nI_clamp (by omega)]
    have e4 : w (se (nI i).toNatClampNeg).toNatClampNeg = w (rr i) := by rw [hcl, k3, nI_clamp (by omega)]
    have e1 : kn (nI i).toNatClampNeg = nI (fr_cd (kd i) (qq i)) := by rw [hcl, k1]
    rcases o with ⟨o, oq⟩ | ⟨o, oq, hl⟩ | ⟨o, oq, hl, hr⟩
    · have ec : fr_cd (kd i) (qq i) = 20 + qq i := if_pos o
      rw [ec] at e1
      have es : nI (20 + qq i) - 20 = nI (qq i) := (pk_sub (b := 20) (by omega)).trans (by rw [Nat.add_sub_cancel_left])
      refine br_f (nI_ge him (by omega)) ⟨hv, nm_r e1 (br_f (nI_ge (a := 19) (b := 20 + qq i) (by omega) (by omega)) ⟨?_, hv, nm_r (e' := upd w i (mk (qq i))) ?_ (nm_r (nI_1 i) (go _ ?_))⟩)⟩
      · rw [es]; exact vp_in_nI oq (by decide)
      · rw [hcl, es, nI_clamp (by omega)]
      · rw [o]; rfl
    · have ec : fr_cd (kd i) (qq i) = qq i := by rw [o]; rfl
      rw [ec] at e1
      refine br_f (nI_ge him (by omega)) ⟨hv, nm_r e1 (br_t (nI_le (b := 19) (by omega) (by decide)) (br_t (nI_le (b := 9) (by omega) (by decide)) ⟨hv, h3, ?_⟩))⟩
      rw [e3]
      refine yv_1 hc oq rfl (g8 _ hl) ⟨hv, nm_r (e' := upd w i (fr_v1 a d c (qq i) (w (ll i)))) (by rw [hcl]) (nm_r (nI_1 i) (go _ ?_))⟩
      rw [o]; rfl
    · have ec : fr_cd (kd i) (qq i) = 10 + qq i := by rw [o]; rfl
      rw [ec] at e1
      have es : nI (10 + qq i) - 10 = nI (qq i) := (pk_sub (b := 10) (by omega)).trans (by rw [Nat.add_sub_cancel_left])
      refine br_f (nI_ge him (by omega)) ⟨hv, nm_r e1 (br_t (nI_le (b := 19) (by omega) (by decide)) (br_f (nI_ge (a := 9) (b := 10 + qq i) (by omega) (by omega)) ⟨hv, h3, hv, h4, ?_⟩))⟩
      rw [e3, e4]
      refine yv_2 hc oq es ⟨hv, nm_r (e' := upd w i (fr_v2 a d c (qq i) (w (ll i)) (w (rr i)))) (by rw [hcl]) (nm_r (nI_1 i) (go _ ?_))⟩
      rw [o]; rfl
theorem yw_w {post : SY → Prop} {c m : Nat} {fz : Int32} {a mk d kn fi se sv st : Nat → Int32} {kd qq ll rr : Nat → Nat} (hc : c ≤ 3) (hm : m ≤ 20) (h8 : ∀ i, fr_sub (mk i) 255) (ok : ∀ i, i < m → fr_ok i (kd i) (qq i) (ll i) (rr i)) (hk : ∀ i, i < m → kn i = nI (fr_cd (kd i) (qq i)) ∧ fi i = nI (ll i) ∧ se i = nI (rr i)) (hp : ∀ w, fr_gd a mk d c kd qq ll rr m w → post (nI c, nI m, fz, a, mk, d, kn, fi, se, w, st)) : wpY_findSets post (nI c, nI m, fz, a, mk, d, kn, fi, se, sv, st) :=
  ⟨m + 1, yw_loop hc hm h8 ok hk hp m 0 sv (by omega) (fr_gd_0 a mk d c kd qq ll rr sv)⟩
