theorem fr_nn {n : Nat} {v : Int32} (hn : n < 2 ^ 31) (h : nI n ≤ v) : ¬ v < 0 := fun g => nI_pos hn (Int32.lt_of_le_of_lt h g)
theorem fr_lt {n : Nat} {v : Int32} (hn : n + 1 < 2 ^ 31) (h : nI (n + 1) ≤ v) : nI n < v := Int32.lt_of_lt_of_le (nI_lt (Nat.lt_succ_self n) hn) h
theorem fr_nle {n : Nat} {v : Int32} (hn : n + 1 < 2 ^ 31) (h : nI (n + 1) ≤ v) : ¬ v ≤ nI n := Int32.not_le.mpr (fr_lt hn h)
theorem fr_nlt {n j : Nat} (hn : n < 2 ^ 31) (h : j ≤ n) : ¬ nI n < nI j := nI_nlt h hn
theorem fr_nq {i j : Nat} (h : i ≠ j) (hi : i < 2 ^ 31) (hj : j < 2 ^ 31) : ¬ nI i = nI j := fun e => h ((nI_eq hi hj).mp e)
theorem fr_m2 (n : Nat) : nI (n + 2) - 2 = nI n := (pk_sub (b := 2) (by omega)).trans (by rw [Nat.add_sub_cancel])
theorem fr_sp (x : Int32) {n : Nat} (hn : n < 2 ^ 31) : (x < 0 ∨ nI n ≤ x) ∨ ∃ j : Nat, j < n ∧ x = nI j := by
  rcases pk_ix x hn with h | h | h
  · exact Or.inl (Or.inl h)
  · exact Or.inl (Or.inr h)
  · exact Or.inr h
/-! the small tests -/
theorem xi_s0 {post : Int32 → Prop} {v : Int32} {fc fm fz : Int32} {a mk d ki op le ri va st : Nat → Int32} (h : v < 0 ∨ nI 8 ≤ v) (hp : post 0) : wpX_isState post (fc, fm, fz, a, mk, d, ki, op, le, ri, va, st) v := by
  rcases h with h | h
  · exact br_t h hp
  · exact br_f (fr_nn (by decide) h) (br_t h hp)
theorem xi_s1 {post : Int32 → Prop} {s : Nat} {fc fm fz : Int32} {a mk d ki op le ri va st : Nat → Int32} (h : s < 8) (hp : post 1) : wpX_isState post (fc, fm, fz, a, mk, d, ki, op, le, ri, va, st) (nI s) :=
  br_f (nI_pos (by omega)) (br_f (fr_8f h) hp)
theorem xi_e0 {post : Int32 → Prop} {v : Int32} {fc fm fz : Int32} {a mk d ki op le ri va st : Nat → Int32} (h : v < 0 ∨ nI 256 ≤ v) (hp : post 0) : wpX_isSet post (fc, fm, fz, a, mk, d, ki, op, le, ri, va, st) v := by
  rcases h with h | h
  · exact br_t h hp
  · exact br_f (fr_nn (by decide) h) (br_t (fr_lt (by decide) h) hp)
theorem xi_e1 {post : Int32 → Prop} {s : Nat} {fc fm fz : Int32} {a mk d ki op le ri va st : Nat → Int32} (h : s < 256) (hp : post 1) : wpX_isSet post (fc, fm, fz, a, mk, d, ki, op, le, ri, va, st) (nI s) :=
  br_f (nI_pos (by omega)) (br_f (nI_nlt (a := 255) (by omega) (by decide)) hp)
theorem xi_m0 {post : Int32 → Prop} {v : Int32} {fc fm fz : Int32} {a mk d ki op le ri va st : Nat → Int32} (h : v < 0 ∨ nI 4 ≤ v) (hp : post 0) : wpX_isMark post (fc, fm, fz, a, mk, d, ki, op, le, ri, va, st) v := by
  rcases h with h | h
  · exact br_t h hp
  · exact br_f (fr_nn (by decide) h) (br_t h hp)
theorem xi_m1 {post : Int32 → Prop} {s : Nat} {fc fm fz : Int32} {a mk d ki op le ri va st : Nat → Int32} (h : s < 4) (hp : post 1) : wpX_isMark post (fc, fm, fz, a, mk, d, ki, op, le, ri, va, st) (nI s) :=
  br_f (nI_pos (by omega)) (br_f (nI_ge (b := 4) h (by decide)) hp)
theorem yi_s0 {post : Int32 → Prop} {v : Int32} {fc fm fz : Int32} {a mk d kn fi se sv st : Nat → Int32} (h : v < 0 ∨ nI 8 ≤ v) (hp : post 0) : wpY_isState post (fc, fm, fz, a, mk, d, kn, fi, se, sv, st) v := by
  rcases h with h | h
  · exact br_t h hp
  · exact br_f (fr_nn (by decide) h) (br_t (fr_lt (by decide) h) hp)
theorem yi_s1 {post : Int32 → Prop} {s : Nat} {fc fm fz : Int32} {a mk d kn fi se sv st : Nat → Int32} (h : s < 8) (hp : post 1) : wpY_isState post (fc, fm, fz, a, mk, d, kn, fi, se, sv, st) (nI s) :=
  br_f (nI_pos (by omega)) (br_f (nI_nlt (a := 7) (by omega) (by decide)) hp)
theorem yi_e0 {post : Int32 → Prop} {v : Int32} {fc fm fz : Int32} {a mk d kn fi se sv st : Nat → Int32} (h : v < 0 ∨ nI 256 ≤ v) (hp : post 0) : wpY_isSet post (fc, fm, fz, a, mk, d, kn, fi, se, sv, st) v := by
  rcases h with h | h
  · exact br_t h hp
  · exact br_f (fr_nn (by decide) h) (br_t (fr_lt (by decide) h) hp)
theorem yi_e1 {post : Int32 → Prop} {s : Nat} {fc fm fz : Int32} {a mk d kn fi se sv st : Nat → Int32} (h : s < 256) (hp : post 1) : wpY_isSet post (fc, fm, fz, a, mk, d, kn, fi, se, sv, st) (nI s) :=
  br_f (nI_pos (by omega)) (br_f (nI_nlt (a := 255) (by omega) (by decide)) hp)
/-! a new formula -/
theorem xm_w {post : SX → Prop} {m z : Nat} {fc p0 p1 p2 p3 : Int32} {a mk d ki op le ri va st : Nat → Int32} (hm : m < 20) (hz : z < 6) (hp : post (fc, nI (m + 1), nI (z + 1), a, mk, d, upd ki m p0, upd op m p1, upd le m p2, upd ri m p3, va, upd st z (nI m))) : wpX_makeFormula post (fc, nI m, nI z, a, mk, d, ki, op, le, ri, va, st) p0 p1 p2 p3 := by
  have e1 : (nI m).toNatClampNeg = m := nI_clamp (by omega)
  have e2 : (nI z).toNatClampNeg = z := nI_clamp (by omega)
  have hv : vp_in (nI m) 20 := vp_in_nI hm (by decide)
  have hw : vp_in (nI z) 6 := vp_in_nI hz (by decide)
  exact ⟨hv, nm_r (e' := upd ki m p0) (by rw [e1]) ⟨hv, nm_r (e' := upd op m p1) (by rw [e1]) ⟨hv, nm_r (e' := upd le m p2) (by rw [e1]) ⟨hv, nm_r (e' := upd ri m p3) (by rw [e1]) ⟨hw, nm_r (e' := upd st z (nI m)) (by rw [e2]) (nm_r (nI_1 z) (nm_r (nI_1 m) hp))⟩⟩⟩⟩⟩
theorem yn_w {post : Int32 → SY → Prop} {m z : Nat} {fc p0 p1 p2 : Int32} {a mk d kn fi se sv st : Nat → Int32} (hm : m < 20) (hz : z < 6) (hp : post (nI (z + 1)) (fc, nI (m + 1), nI (z + 1), a, mk, d, upd kn m p0, upd fi m p1, upd se m p2, sv, upd st z (nI m))) : wpY_note post (fc, nI m, nI z, a, mk, d, kn, fi, se, sv, st) p0 p1 p2 := by
  have e1 : (nI m).toNatClampNeg = m := nI_clamp (by omega)
  have e2 : (nI z).toNatClampNeg = z := nI_clamp (by omega)
  have hv : vp_in (nI m) 20 := vp_in_nI hm (by decide)
  have hw : vp_in (nI z) 6 := vp_in_nI hz (by decide)
  exact ⟨hv, nm_r (e' := upd kn m p0) (by rw [e1]) ⟨hv, nm_r (e' := upd fi m p1) (by rw [e1]) ⟨hv, nm_r (e' := upd se m p2) (by rw [e1]) ⟨hw, nm_r (e' := upd st z (nI m)) (by rw [e2]) (nm_r (nI_1 m) (nm_r (nI_1 z) hp))⟩⟩⟩⟩
/-! reach, steps, knots -/
theorem yr_loop {post : Int32 → Prop} {fc fm fz : Int32} {a mk d kn fi se sv st : Nat → Int32} : ∀ r i g, i + r = 8 → post (fr_it (fun x => x ||| fr_af a x) r g) → wY_reach_16 post fc fm fz a mk d kn fi se sv st (r + 1) g (nI i) := by
  intro r
  induction r with
  | zero =>
    intro i g hi hp
    have e : i = 8 := by omega
    subst e
    exact br_t fr_8t hp
  | succ r ih =>
    intro i g hi hp
    exact br_f (fr_8f (by omega)) (ya_w rfl (nm_e (nm_r (nI_1 i) (ih (i + 1) _ (by omega) hp))))
def fr_st (a : Nat → Int32) (g : Int32) : Nat → Nat → Int32 → Int32
  | 0, _, _ => -4
  | r + 1, i, x => if x &&& g = 0 then fr_st a g r (i + 1) (x ||| fr_af a x) else nI i
theorem xt_loop {post : Int32 → SX → Prop} {g : Int32} {fc fm fz : Int32} {a mk d ki op le ri va st : Nat → Int32} : ∀ r i x, i + r = 8 → post (fr_st a g r i x) (fc, fm, fz, a, mk, d, ki, op, le, ri, va, st) → wX_steps_49 post g fc fm fz a mk d ki op le ri va st (r + 1) x (nI i) := by
  intro r
  induction r with
  | zero =>
    intro i x hi hp
    have e : i = 8 := by omega
    subst e
    exact br_t fr_8t hp
  | succ r ih =>
    intro i x hi hp
    by_cases z : x &&& g = 0
    · have e : fr_st a g (r + 1) i x = fr_st a g r (i + 1) (x ||| fr_af a x) := if_pos z
      rw [e] at hp
      exact br_f (fr_8f (by omega)) (br_t z (xa_w rfl (nm_e (nm_r (nI_1 i) (ih (i + 1) _ (by omega) hp)))))
    · have e : fr_st a g (r + 1) i x = nI i := if_neg z
      rw [e] at hp
      exact br_f (fr_8f (by omega)) (br_f z hp)
theorem yt_loop {post : Int32 → SY → Prop} {g : Int32} {fc fm fz : Int32} {a mk d kn fi se sv st : Nat → Int32} (hg : ¬ g < 0) : ∀ r i x, i + r = 8 → post (fr_st a g r i x) (fc, fm, fz, a, mk, d, kn, fi, se, sv, st) → wY_steps_22 post g fc fm fz a mk d kn fi se sv st (r + 1) x (nI i) := by
  intro r
  induction r with
  | zero =>
    intro i x hi hp
    have e : i = 8 := by omega
    subst e
    exact br_t fr_8t hp
  | succ r ih =>
    intro i x hi hp
    by_cases z : x &&& g = 0
    · have e : fr_st a g (r + 1) i x = fr_st a g r (i + 1) (x ||| fr_af a x) := if_pos z
      rw [e] at hp
      exact br_f (fr_8f (by omega)) (br_f hg (br_t z (ya_w rfl (nm_e (nm_r (nI_1 i) (ih (i + 1) _ (by omega) hp))))))
    · have e : fr_st a g (r + 1) i x = nI i := if_neg z
      rw [e] at hp
      exact br_f (fr_8f (by omega)) (br_f hg (br_f z hp))
def fr_k1 (a : Nat → Int32) (i : Nat) : Int32 := fr_cl a (a i) &&& fr_un a 255 ((1 : Int32) <<< (nI i &&& 31))
def fr_kn (a : Nat → Int32) : Nat → Nat → Int32 → Int32
  | 0, _, x => x
  | r + 1, i, x => fr_kn a r (i + 1) (if fr_k1 a i &&& ((1 : Int32) <<< (nI i &&& 31)) = 0 then x else if fr_k1 a i &&& (((1 : Int32) <<< (nI i &&& 31)) - 1) = 0 then x + 1 else x)
theorem xk_loop {post : Int32 → Prop} {fc fm fz : Int32} {a mk d ki op le ri va st : Nat → Int32} : ∀ r i x, i + r = 8 → post (fr_kn a r i x) → wX_knots_4 post fc fm fz a mk d ki op le ri va st (r + 1) x (nI i) := by
  intro r
  induction r with
  | zero =>
    intro i x hi hp
    have e : i = 8 := by omega
    subst e
    exact br_t fr_8t hp
  | succ r ih =>
    intro i x hi hp
    have hn := ih (i + 1) _ (by omega) hp
    refine br_f (fr_8f (by omega)) (nm_e ⟨vp_in_nI (by omega) (by decide), xc_w (g := a i) (by rw [fr_c8 (by omega)]) (xu_w rfl (nm_e ?_))⟩)
    by_cases z1 : fr_k1 a i &&& ((1 : Int32) <<< (nI i &&& 31)) = 0
    · rw [if_pos z1] at hn
      exact br_t z1 (nm_r (nI_1 i) hn)
    · rw [if_neg z1] at hn
      by_cases z2 : fr_k1 a i &&& (((1 : Int32) <<< (nI i &&& 31)) - 1) = 0
      · rw [if_pos z2] at hn
        exact br_f z1 (br_t z2 (nm_e (nm_r (nI_1 i) hn)))
      · rw [if_neg z2] at hn
        exact br_f z1 (br_f z2 (nm_r (nI_1 i) hn))
theorem yk_in {post : Int32 → Prop} {J4 : Int32 → Int32 → Prop} {x1 x2 : Int32} {fc fm fz : Int32} {a mk d kn fi se sv st : Nat → Int32} : ∀ r i g, i + r = 8 → wY_knots_24 post J4 x1 x2 fc fm fz a mk d kn fi se sv st 1 (fr_it (fun x => x ||| fr_af a x) r g) (nI 8) → wY_knots_24 post J4 x1 x2 fc fm fz a mk d kn fi se sv st (r + 1) g (nI i) := by
  intro r
  induction r with
  | zero =>
    intro i g hi hp
    have e : i = 8 := by omega
    subst e
    exact hp
  | succ r ih =>
    intro i g hi hp
    exact br_f (fr_8f (by omega)) (ya_w rfl (nm_e (nm_r (nI_1 i) (ih (i + 1) _ (by omega) hp))))
theorem yk_loop {post : Int32 → Prop} {fc fm fz : Int32} {a mk d kn fi se sv st : Nat → Int32} : ∀ r i x, i + r = 8 → post (fr_kn a r i x) → wY_knots_4 post fc fm fz a mk d kn fi se sv st (r + 1) x (nI i) := by
  intro r
  induction r with
  | zero =>
    intro i x hi hp
    have e : i = 8 := by omega
    subst e
    exact br_t fr_8t hp
  | succ r ih =>
    intro i x hi hp
    have hn := ih (i + 1) _ (by omega) hp
    refine br_f (fr_8f (by omega)) (ya_w rfl ⟨9, yk_in 8 0 _ rfl ?_⟩)
    rw [fr_af_1 a (by omega)]
    refine br_t fr_8t (yu_w rfl (nm_e ?_))
    by_cases z1 : fr_k1 a i &&& ((1 : Int32) <<< (nI i &&& 31)) = 0
    · rw [if_pos z1] at hn
      exact br_f (fun w => (fr_sh (by omega)).mp w z1) (nm_r (nI_1 i) hn)
    · rw [if_neg z1] at hn
      by_cases z2 : fr_k1 a i &&& (((1 : Int32) <<< (nI i &&& 31)) - 1) = 0
      · rw [if_pos z2] at hn
        exact br_t ((fr_sh (by omega)).mpr z1) (br_t z2 (nm_e (nm_r (nI_1 i) hn)))
      · rw [if_neg z2] at hn
        exact br_t ((fr_sh (by omega)).mpr z1) (br_f z2 (nm_r (nI_1 i) hn))
