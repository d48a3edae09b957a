theorem i_up {k : Nat} {u : SX} {v : SY} (h : i_Rel k u v) : i_Rel (k + 3) u v := h
theorem i_vc0 : wpX_init (fun u => wpY_init (fun v => i_Rel 0 u v)) :=
  fr_rel (k := 0) (c := 0) (m := 0) (z := 0) (kd := fun _ => 0) (qq := fun _ => 0) (ll := fun _ => 0) (rr := fun _ => 0) ⟨by decide, by decide, by decide, fun _ => fr_set0, fun i h => absurd h (Nat.not_lt_zero i), fun i h => absurd h (Nat.not_lt_zero i), fun i h => absurd h (Nat.not_lt_zero i), fun i h => absurd h (Nat.not_lt_zero i)⟩
theorem i_vc_arcs {k : Nat} {u : SX} {v : SY} (I : i_Rel k u v) (hk : k + 3 ≤ 1536) (v1 : Int32) (v2 : Int32) : wpX_arcs (fun r u' => wpY_arcs (fun r' v' => r' = r ∧ i_Rel (k + 3) u' v') v v1 v2) u v1 v2 := by
  obtain ⟨c, m, z, a, mk, d, ki, op, le, ri, va, st, kn, fi, se, sv, kd, qq, ll, rr, rfl, rfl, I⟩ := I
  unfold wpX_arcs wpY_arcs
  dsimp only
  rcases fr_sp v1 (n := 8) (by decide) with h | ⟨s, hs, rfl⟩
  · exact xi_s0 h (br_t rfl (yi_s0 h (br_t rfl ⟨rfl, fr_rel I⟩)))
  · rcases fr_sp v2 (n := 256) (by decide) with h | ⟨t, ht, rfl⟩
    · exact xi_s1 hs (br_f (by decide) (xi_e0 h (br_t rfl (yi_s1 hs (br_f (by decide) (yi_e0 h (br_t rfl ⟨rfl, fr_rel I⟩)))))))
    · have hv : vp_in (nI s) 8 := vp_in_nI hs (by decide)
      exact xi_s1 hs (br_f (by decide) (xi_e1 ht (br_f (by decide) ⟨hv, nm_e ⟨hv, nm_e (yi_s1 hs (br_f (by decide) (yi_e1 ht (br_f (by decide) ⟨hv, nm_e ⟨hv, nm_e ⟨rfl, fr_rel I⟩⟩⟩))))⟩⟩)))
theorem i_vc_mark {k : Nat} {u : SX} {v : SY} (I : i_Rel k u v) (hk : k + 3 ≤ 1536) (v1 : Int32) (v2 : Int32) : wpX_mark (fun r u' => wpY_mark (fun r' v' => r' = r ∧ i_Rel (k + 3) u' v') v v1 v2) u v1 v2 := by
  obtain ⟨c, m, z, a, mk, d, ki, op, le, ri, va, st, kn, fi, se, sv, kd, qq, ll, rr, rfl, rfl, I⟩ := I
  unfold wpX_mark wpY_mark
  dsimp only
  rcases fr_sp v1 (n := 4) (by decide) with h | ⟨s, hs, rfl⟩
  · refine xi_m0 h (br_t rfl ?_)
    rcases h with h | h
    · exact br_t h ⟨rfl, fr_rel I⟩
    · exact br_f (fr_nn (by decide) h) (br_t (fr_lt (by decide) h) ⟨rfl, fr_rel I⟩)
  · have h0 : ¬ nI s < 0 := nI_pos (by omega)
    have h3 : ¬ (3 : Int32) < nI s := nI_nlt (a := 3) (by omega) (by decide)
    rcases fr_sp v2 (n := 256) (by decide) with h | ⟨t, ht, rfl⟩
    · exact xi_m1 hs (br_f (by decide) (xi_e0 h (br_t rfl (br_f h0 (br_f h3 (yi_e0 h (br_t rfl ⟨rfl, fr_rel I⟩)))))))
    · have hv : vp_in (nI s) 4 := vp_in_nI hs (by decide)
      obtain ⟨i1, i2, i3, i4, i5⟩ := I
      have I' : fr_Inv c m z (upd mk (nI s).toNatClampNeg (nI t)) ki op le ri st kn fi se kd qq ll rr := ⟨i1, i2, i3, fr_mk8 i4 ht, i5⟩
      exact xi_m1 hs (br_f (by decide) (xi_e1 ht (br_f (by decide) ⟨hv, nm_e ⟨hv, nm_e (br_f h0 (br_f h3 (yi_e1 ht (br_f (by decide) ⟨hv, nm_e ⟨hv, nm_e ⟨rfl, fr_rel I'⟩⟩⟩))))⟩⟩)))
theorem i_vc_demand {k : Nat} {u : SX} {v : SY} (I : i_Rel k u v) (hk : k + 3 ≤ 1536) (v1 : Int32) : wpX_demand (fun r u' => wpY_demand (fun r' v' => r' = r ∧ i_Rel (k + 3) u' v') v v1) u v1 := by
  obtain ⟨c, m, z, a, mk, d, ki, op, le, ri, va, st, kn, fi, se, sv, kd, qq, ll, rr, rfl, rfl, I⟩ := I
  unfold wpX_demand wpY_demand
  dsimp only
  rcases fr_sp v1 (n := 256) (by decide) with h | ⟨t, ht, rfl⟩
  · exact xi_e0 h (br_t rfl (yi_e0 h (br_t rfl ⟨rfl, fr_rel I⟩)))
  · have hc := I.1
    by_cases e : c = 3
    · subst e
      exact xi_e1 ht (br_f (by decide) (br_f (by decide) (yi_e1 ht (br_f (by decide) (br_t rfl ⟨rfl, fr_rel I⟩)))))
    · have hv : vp_in (nI c) 3 := vp_in_nI (by omega) (by decide)
      have I' : fr_Inv (c + 1) m z mk ki op le ri st kn fi se kd qq ll rr := ⟨by omega, I.2⟩
      exact xi_e1 ht (br_f (by decide) (br_t (nI_lt (b := 3) (by omega) (by decide)) ⟨hv, nm_e (nm_r (nI_1 c) (yi_e1 ht (br_f (by decide) (br_f (fr_nq (j := 3) e (by omega) (by decide)) ⟨hv, nm_e (nm_r (nI_1 c) ⟨rfl, fr_rel I'⟩)⟩))))⟩))
theorem i_vc_undemand {k : Nat} {u : SX} {v : SY} (I : i_Rel k u v) (hk : k + 3 ≤ 1536) : wpX_undemand (fun r u' => wpY_undemand (fun r' v' => r' = r ∧ i_Rel (k + 3) u' v') v) u := by
  obtain ⟨c, m, z, a, mk, d, ki, op, le, ri, va, st, kn, fi, se, sv, kd, qq, ll, rr, rfl, rfl, I⟩ := I
  have hc := I.1
  cases c with
  | zero => exact br_f (by decide) (br_t rfl ⟨rfl, fr_rel I⟩)
  | succ c =>
    have hv : vp_in (nI c) 3 := vp_in_nI (by omega) (by decide)
    have I' : fr_Inv c m z mk ki op le ri st kn fi se kd qq ll rr := ⟨by omega, I.2⟩
    exact br_t (nI_le (a := 1) (by omega) (by omega)) (nm_r (nI_pred c) ⟨hv, br_f (nI_ne0 (by omega) (by omega)) (nm_r (nI_pred c) ⟨hv, rfl, fr_rel I'⟩)⟩)
theorem i_vc_push {k : Nat} {u : SX} {v : SY} (I : i_Rel k u v) (hk : k + 3 ≤ 1536) (v1 : Int32) : wpX_push (fun r u' => wpY_push (fun r' v' => r' = r ∧ i_Rel (k + 3) u' v') v v1) u v1 := by
  obtain ⟨c, m, z, a, mk, d, ki, op, le, ri, va, st, kn, fi, se, sv, kd, qq, ll, rr, rfl, rfl, I⟩ := I
  unfold wpX_push wpY_push
  dsimp only
  rcases fr_sp v1 (n := 4) (by decide) with h | ⟨s, hs, rfl⟩
  · refine xi_m0 h (br_t rfl ?_)
    rcases h with h | h
    · exact br_t h ⟨rfl, fr_rel I⟩
    · exact br_f (fr_nn (by decide) h) (br_f (fr_nle (n := 3) (by decide) h) ⟨rfl, fr_rel I⟩)
  · have h0 : ¬ nI s < 0 := nI_pos (by omega)
    have h3 : nI s ≤ (3 : Int32) := nI_le (b := 3) (by omega) (by decide)
    have hm := I.2.1
    have hz := I.2.2.1
    by_cases e : z = 6
    · subst e
      exact xi_m1 hs (br_f (by decide) (br_t (by decide) (br_f h0 (br_t h3 (br_t rfl ⟨rfl, fr_rel I⟩)))))
    · have e1 : ¬ (6 : Int32) ≤ nI z := nI_ge (b := 6) (by omega) (by decide)
      have e2 : ¬ nI z = (6 : Int32) := fr_nq (j := 6) e (by omega) (by decide)
      by_cases g : m = 20
      · subst g
        exact xi_m1 hs (br_f (by decide) (br_f e1 (br_f (by decide) (br_f h0 (br_t h3 (br_f e2 (br_t rfl ⟨rfl, fr_rel I⟩)))))))
      · have g1 : nI m < (20 : Int32) := nI_lt (b := 20) (by omega) (by decide)
        have g2 : ¬ nI m = (20 : Int32) := fr_nq (j := 20) g (by omega) (by decide)
        have I' := fr_new I (by omega) (Nat.le_refl z) (by omega) (k := 0) (q := s) (l := 0) (r := 0) ⟨by decide, by decide, Or.inl ⟨rfl, hs⟩⟩ (p0 := 0) (p1 := nI s) (p2 := 0) (p3 := 0) (y0 := 20 + nI s) (y1 := 0) (y2 := 0) rfl rfl rfl rfl (nI_add 20 s) rfl rfl
        exact xi_m1 hs (br_f (by decide) (br_f e1 (br_t g1 (xm_w (by omega) (by omega) (br_f h0 (br_t h3 (br_f e2 (br_f g2 (yn_w (by omega) (by omega) ⟨rfl, fr_rel I'⟩)))))))))
theorem i_vc_one {k : Nat} {u : SX} {v : SY} (I : i_Rel k u v) (hk : k + 3 ≤ 1536) (v1 : Int32) : wpX_one (fun r u' => wpY_one (fun r' v' => r' = r ∧ i_Rel (k + 3) u' v') v v1) u v1 := by
  obtain ⟨c, m, z, a, mk, d, ki, op, le, ri, va, st, kn, fi, se, sv, kd, qq, ll, rr, rfl, rfl, I⟩ := I
  rcases fr_sp v1 (n := 7) (by decide) with h | ⟨s, hs, rfl⟩
  · rcases h with h | h
    · exact br_t h (br_t h ⟨rfl, fr_rel I⟩)
    · have h0 := fr_nn (by decide) h
      have h6 : ¬ v1 ≤ 6 := fr_nle (n := 6) (by decide) h
      exact br_f h0 (br_f h6 (br_f h0 (br_f h6 ⟨rfl, fr_rel I⟩)))
  · have h0 : ¬ nI s < 0 := nI_pos (by omega)
    have h6 : nI s ≤ (6 : Int32) := nI_le (b := 6) (by omega) (by decide)
    have hm := I.2.1
    have hz := I.2.2.1
    cases z with
    | zero => exact br_f h0 (br_t h6 (br_f (by decide) (br_f h0 (br_t h6 (br_t rfl ⟨rfl, fr_rel I⟩)))))
    | succ z =>
      have e1 : (1 : Int32) ≤ nI (z + 1) := nI_le (a := 1) (by omega) (by omega)
      have e2 : ¬ nI (z + 1) = 0 := nI_ne0 (by omega) (by omega)
      by_cases g : m = 20
      · subst g
        exact br_f h0 (br_t h6 (br_t e1 (br_f (by decide) (br_f h0 (br_t h6 (br_f e2 (br_t rfl ⟨rfl, fr_rel I⟩)))))))
      · have g1 : nI m < (20 : Int32) := nI_lt (b := 20) (by omega) (by decide)
        have g2 : ¬ nI m = (20 : Int32) := fr_nq (j := 20) g (by omega) (by decide)
        have hv : vp_in (nI z) 6 := vp_in_nI (by omega) (by decide)
        obtain ⟨l, hl, hs1⟩ := I.2.2.2.2.2.2.2 z (by omega)
        have es : st (nI z).toNatClampNeg = nI l := by rw [nI_clamp (by omega), hs1]
        have I' := fr_new I (by omega) (Nat.le_succ z) (by omega) (k := 1) (q := s) (l := l) (r := 0) ⟨by omega, by decide, Or.inr (Or.inl ⟨rfl, hs, hl⟩)⟩ (p0 := 1) (p1 := nI s) (p2 := st (nI z).toNatClampNeg) (p3 := 0) (y0 := nI s) (y1 := st (nI z).toNatClampNeg) (y2 := 0) rfl rfl es rfl rfl es rfl
        exact br_f h0 (br_t h6 (br_t e1 (br_t g1 (nm_r (nI_pred z) ⟨hv, xm_w (by omega) (by omega) (br_f h0 (br_t h6 (br_f e2 (br_f g2 (nm_r (nI_pred z) ⟨hv, yn_w (by omega) (by omega) ⟨rfl, fr_rel I'⟩⟩)))))⟩))))
theorem i_vc_two {k : Nat} {u : SX} {v : SY} (I : i_Rel k u v) (hk : k + 3 ≤ 1536) (v1 : Int32) : wpX_two (fun r u' => wpY_two (fun r' v' => r' = r ∧ i_Rel (k + 3) u' v') v v1) u v1 := by
  obtain ⟨c, m, z, a, mk, d, ki, op, le, ri, va, st, kn, fi, se, sv, kd, qq, ll, rr, rfl, rfl, I⟩ := I
  rcases fr_sp v1 (n := 4) (by decide) with h | ⟨s, hs, rfl⟩
  · rcases h with h | h
    · exact br_t h (br_t h ⟨rfl, fr_rel I⟩)
    · have h0 := fr_nn (by decide) h
      have h6 : ¬ v1 ≤ 3 := fr_nle (n := 3) (by decide) h
      exact br_f h0 (br_f h6 (br_f h0 (br_f h6 ⟨rfl, fr_rel I⟩)))
  · have h0 : ¬ nI s < 0 := nI_pos (by omega)
    have h6 : nI s ≤ (3 : Int32) := nI_le (b := 3) (by omega) (by decide)
    have hm := I.2.1
    have hz := I.2.2.1
    by_cases z2 : z < 2
    · have e1 : ¬ (2 : Int32) ≤ nI z := nI_ge (b := 2) z2 (by decide)
      exact br_f h0 (br_t h6 (br_f e1 (br_f h0 (br_t h6 (br_f e1 ⟨rfl, fr_rel I⟩)))))
    · obtain ⟨y, rfl⟩ : ∃ y, z = y + 2 := ⟨z - 2, by omega⟩
      have e1 : (2 : Int32) ≤ nI (y + 2) := nI_le (a := 2) (by omega) (by omega)
      by_cases g : m = 20
      · subst g
        exact br_f h0 (br_t h6 (br_t e1 (br_f (by decide) (br_f h0 (br_t h6 (br_t e1 (br_t rfl ⟨rfl, fr_rel I⟩)))))))
      · have g1 : nI m < (20 : Int32) := nI_lt (b := 20) (by omega) (by decide)
        have g2 : ¬ nI m = (20 : Int32) := fr_nq (j := 20) g (by omega) (by decide)
        have hv : vp_in (nI y) 6 := vp_in_nI (by omega) (by decide)
        have hv' : vp_in (nI y + 1) 6 := by rw [nI_1]; exact vp_in_nI (by omega) (by decide)
        obtain ⟨l, hl, hs1⟩ := I.2.2.2.2.2.2.2 y (by omega)
        obtain ⟨r, hr, hs2⟩ := I.2.2.2.2.2.2.2 (y + 1) (by omega)
        have es : st (nI y).toNatClampNeg = nI l := by rw [nI_clamp (by omega), hs1]
        have es' : st (nI y + 1).toNatClampNeg = nI r := by rw [nI_1, nI_clamp (by omega), hs2]
        have I' := fr_new I (by omega) (by omega : y ≤ y + 2) (by omega) (k := 2) (q := s) (l := l) (r := r) ⟨by omega, by omega, Or.inr (Or.inr ⟨rfl, hs, hl, hr⟩)⟩ (p0 := 2) (p1 := nI s) (p2 := st (nI y).toNatClampNeg) (p3 := st (nI y + 1).toNatClampNeg) (y0 := 10 + nI s) (y1 := st (nI y).toNatClampNeg) (y2 := st (nI y + 1).toNatClampNeg) rfl rfl es es' (nI_add 10 s) es es'
        exact br_f h0 (br_t h6 (br_t e1 (br_t g1 (nm_r (fr_m2 y) ⟨hv, hv', xm_w (by omega) (by omega) (br_f h0 (br_t h6 (br_t e1 (br_f g2 (nm_r (fr_m2 y) ⟨hv, hv', yn_w (by omega) (by omega) ⟨rfl, fr_rel I'⟩⟩)))))⟩))))
theorem i_vc_discard {k : Nat} {u : SX} {v : SY} (I : i_Rel k u v) (hk : k + 3 ≤ 1536) : wpX_discard (fun u' => wpY_discard (fun v' => i_Rel (k + 3) u' v') v) u := by
  obtain ⟨c, m, z, a, mk, d, ki, op, le, ri, va, st, kn, fi, se, sv, kd, qq, ll, rr, rfl, rfl, I⟩ := I
  have I' : fr_Inv c 0 0 mk ki op le ri st kn fi se kd qq ll rr := ⟨I.1, by decide, by decide, I.2.2.2.1, fun i h => absurd h (Nat.not_lt_zero i), fun i h => absurd h (Nat.not_lt_zero i), fun i h => absurd h (Nat.not_lt_zero i), fun i h => absurd h (Nat.not_lt_zero i)⟩
  exact fr_rel (k := k + 3) I'
theorem i_vc_depth {k : Nat} {u : SX} {v : SY} (I : i_Rel k u v) (hk : k + 3 ≤ 1536) : wpX_depth (fun r => wpY_depth (fun r' => r' = r ∧ i_Rel (k + 3) u v) v) u := by
  obtain ⟨c, m, z, a, mk, d, ki, op, le, ri, va, st, kn, fi, se, sv, kd, qq, ll, rr, rfl, rfl, I⟩ := I
  exact ⟨rfl, fr_rel I⟩
theorem i_vc_holds {k : Nat} {u : SX} {v : SY} (I : i_Rel k u v) (hk : k + 3 ≤ 1536) : wpX_holds (fun r u' => wpY_holds (fun r' v' => r' = r ∧ i_Rel (k + 3) u' v') v) u := by
  obtain ⟨c, m, z, a, mk, d, ki, op, le, ri, va, st, kn, fi, se, sv, kd, qq, ll, rr, rfl, rfl, I⟩ := I
  have I' := I
  obtain ⟨i1, i2, i3, i4, i5, i6, i7, i8⟩ := I'
  cases z with
  | zero => exact br_f (by decide) (yh_0 i1 i2 i4 i7 i6 fun w => ⟨rfl, fr_rel I⟩)
  | succ z =>
    obtain ⟨q, hq, hs⟩ := i8 z (by omega)
    refine br_t (nI_le (a := 1) (by omega) (by omega)) (xw_w i1 i2 i7 i5 fun w hg => ⟨?_, ?_, ?_⟩)
    · show vp_in (nI (z + 1) - 1) 6
      rw [nI_pred]; exact vp_in_nI (by omega) (by decide)
    · show vp_in (st (nI (z + 1) - 1).toNatClampNeg) 20
      rw [nI_pred, nI_clamp (by omega), hs]; exact vp_in_nI (by omega) (by decide)
    · refine yh_1 i1 i2 (by omega) i4 i7 i6 hq hs fun w' hg' => ⟨?_, fr_rel I⟩
      show w' q = w (st (nI (z + 1) - 1).toNatClampNeg).toNatClampNeg
      rw [nI_pred, nI_clamp (by omega), hs, nI_clamp (by omega)]
      exact fr_gd_u i7 hg' hg q hq
theorem i_vc_alike {k : Nat} {u : SX} {v : SY} (I : i_Rel k u v) (hk : k + 3 ≤ 1536) : wpX_alike (fun r u' => wpY_alike (fun r' v' => r' = r ∧ i_Rel (k + 3) u' v') v) u := by
  obtain ⟨c, m, z, a, mk, d, ki, op, le, ri, va, st, kn, fi, se, sv, kd, qq, ll, rr, rfl, rfl, I⟩ := I
  unfold wpX_alike wpY_alike
  have I' := I
  obtain ⟨i1, i2, i3, i4, i5, i6, i7, i8⟩ := I'
  by_cases z2 : z < 2
  · exact br_f (nI_ge (b := 2) z2 (by decide)) (yw_w i1 i2 i4 i7 i6 fun w hg => br_t (nI_le (b := 1) (by omega) (by decide)) ⟨rfl, fr_rel I⟩)
  · obtain ⟨y, rfl⟩ : ∃ y, z = y + 2 := ⟨z - 2, by omega⟩
    obtain ⟨p, hp, hs⟩ := i8 (y + 1) (by omega)
    obtain ⟨q, hq, ht⟩ := i8 y (by omega)
    have n1 : (nI (y + 2) - 1).toNatClampNeg = y + 1 := by rw [nI_pred (y + 1), nI_clamp (by omega)]
    have n2 : (nI (y + 2) - 2).toNatClampNeg = y := by rw [fr_m2, nI_clamp (by omega)]
    have c1 : (st (nI (y + 2) - 1).toNatClampNeg).toNatClampNeg = p := by rw [n1, hs, nI_clamp (by omega)]
    have c2 : (st (nI (y + 2) - 2).toNatClampNeg).toNatClampNeg = q := by rw [n2, ht, nI_clamp (by omega)]
    have v1 : vp_in (nI (y + 2) - 1) 6 := by rw [nI_pred (y + 1)]; exact vp_in_nI (by omega) (by decide)
    have v2 : vp_in (st (nI (y + 2) - 1).toNatClampNeg) 20 := by rw [n1, hs]; exact vp_in_nI (by omega) (by decide)
    have v3 : vp_in (nI (y + 2) - 2) 6 := by rw [fr_m2]; exact vp_in_nI (by omega) (by decide)
    have v4 : vp_in (st (nI (y + 2) - 2).toNatClampNeg) 20 := by rw [n2, ht]; exact vp_in_nI (by omega) (by decide)
    refine br_t (nI_le (a := 2) (by omega) (by omega)) (xw_w i1 i2 i7 i5 fun w hg => ⟨v1, v2, v3, v4, ?_⟩)
    by_cases e : w p = w q
    · refine br_t (by rw [c1, c2]; exact e) (yw_w i1 i2 i4 i7 i6 fun w' hg' => br_f (nI_ge (a := 1) (b := y + 2) (by omega) (by omega)) ⟨v1, v2, v3, v4, br_t ?_ ⟨rfl, fr_rel I⟩⟩)
      rw [c1, c2, fr_gd_u i7 hg' hg p hp, fr_gd_u i7 hg' hg q hq]
      exact e
    · refine br_f (by rw [c1, c2]; exact e) (yw_w i1 i2 i4 i7 i6 fun w' hg' => br_f (nI_ge (a := 1) (b := y + 2) (by omega) (by omega)) ⟨v1, v2, v3, v4, br_f ?_ ⟨rfl, fr_rel I⟩⟩)
      rw [c1, c2, fr_gd_u i7 hg' hg p hp, fr_gd_u i7 hg' hg q hq]
      exact e
theorem i_vc_fair {k : Nat} {u : SX} {v : SY} (I : i_Rel k u v) (hk : k + 3 ≤ 1536) : wpX_fair (fun r => wpY_fair (fun r' => r' = r ∧ i_Rel (k + 3) u v) v) u := by
  obtain ⟨c, m, z, a, mk, d, ki, op, le, ri, va, st, kn, fi, se, sv, kd, qq, ll, rr, rfl, rfl, I⟩ := I
  unfold wpX_fair wpY_fair
  dsimp only
  exact xs_w I.1 rfl (ys_w I.1 (fr_refl 255) rfl ⟨rfl, fr_rel I⟩)
theorem i_vc_reach {k : Nat} {u : SX} {v : SY} (I : i_Rel k u v) (hk : k + 3 ≤ 1536) (v1 : Int32) : wpX_reach (fun r => wpY_reach (fun r' => r' = r ∧ i_Rel (k + 3) u v) v v1) u v1 := by
  obtain ⟨c, m, z, a, mk, d, ki, op, le, ri, va, st, kn, fi, se, sv, kd, qq, ll, rr, rfl, rfl, I⟩ := I
  unfold wpX_reach wpY_reach
  dsimp only
  rcases fr_sp v1 (n := 8) (by decide) with h | ⟨s, hs, rfl⟩
  · exact xi_s0 h (br_t rfl (yi_s0 h (br_t rfl ⟨rfl, fr_rel I⟩)))
  · exact xi_s1 hs (br_f (by decide) (xc_w rfl (yi_s1 hs (br_f (by decide) (nm_e ⟨9, yr_loop 8 0 _ rfl ⟨rfl, fr_rel I⟩⟩)))))
theorem i_vc_steps {k : Nat} {u : SX} {v : SY} (I : i_Rel k u v) (hk : k + 3 ≤ 1536) (v1 : Int32) : wpX_steps (fun r u' => wpY_steps (fun r' v' => r' = r ∧ i_Rel (k + 3) u' v') v v1) u v1 := by
  obtain ⟨c, m, z, a, mk, d, ki, op, le, ri, va, st, kn, fi, se, sv, kd, qq, ll, rr, rfl, rfl, I⟩ := I
  unfold wpX_steps wpY_steps
  have I' := I
  obtain ⟨i1, i2, i3, i4, i5, i6, i7, i8⟩ := I'
  rcases fr_sp v1 (n := 8) (by decide) with h | ⟨s, hs, rfl⟩
  · exact xi_s0 h (br_t rfl (yi_s0 h (br_t rfl ⟨rfl, fr_rel I⟩)))
  · cases z with
    | zero => exact xi_s1 hs (br_f (by decide) (br_f (by decide) (yi_s1 hs (br_f (by decide) (yh_0 i1 i2 i4 i7 i6 fun w => nm_e ⟨1, br_f (by decide) (br_t (by decide) ⟨rfl, fr_rel I⟩)⟩)))))
    | succ z =>
      obtain ⟨q, hq, hst⟩ := i8 z (by omega)
      refine xi_s1 hs (br_f (by decide) (br_t (nI_le (a := 1) (by omega) (by omega)) (xw_w i1 i2 i7 i5 fun w hg => ⟨?_, ?_, nm_r (e' := w q) ?_ (nm_e ⟨9, xt_loop 8 0 _ rfl ?_⟩)⟩)))
      · show vp_in (nI (z + 1) - 1) 6
        rw [nI_pred]; exact vp_in_nI (by omega) (by decide)
      · show vp_in (st (nI (z + 1) - 1).toNatClampNeg) 20
        rw [nI_pred, nI_clamp (by omega), hst]; exact vp_in_nI (by omega) (by decide)
      · show w (st (nI (z + 1) - 1).toNatClampNeg).toNatClampNeg = w q
        rw [nI_pred, nI_clamp (by omega), hst, nI_clamp (by omega)]
      · refine yi_s1 hs (br_f (by decide) (yh_1 i1 i2 (by omega) i4 i7 i6 hq hst fun w' hg' => ?_))
        obtain ⟨n, hn, en⟩ := fr_pos (fr_gd_8 i4 i7 hg' q hq)
        have hpos : ¬ w' q < 0 := by rw [en]; exact nI_pos (by omega)
        refine nm_e ⟨9, yt_loop hpos 8 0 _ rfl ⟨?_, fr_rel I⟩⟩
        rw [fr_gd_u i7 hg' hg q hq]
theorem i_vc_knots {k : Nat} {u : SX} {v : SY} (I : i_Rel k u v) (hk : k + 3 ≤ 1536) : wpX_knots (fun r => wpY_knots (fun r' => r' = r ∧ i_Rel (k + 3) u v) v) u := by
  obtain ⟨c, m, z, a, mk, d, ki, op, le, ri, va, st, kn, fi, se, sv, kd, qq, ll, rr, rfl, rfl, I⟩ := I
  exact ⟨9, xk_loop 8 0 0 rfl ⟨9, yk_loop 8 0 0 rfl ⟨rfl, fr_rel I⟩⟩⟩
