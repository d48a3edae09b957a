def fr_up (f : Nat → Nat) (m v : Nat) : Nat → Nat := fun i => if i = m then v else f i
theorem fr_ups {f : Nat → Nat} {m v : Nat} : fr_up f m v m = v := if_pos rfl
theorem fr_upn {f : Nat → Nat} {m v i : Nat} (h : i ≠ m) : fr_up f m v i = f i := if_neg h
/-- c demands, m formulas made, z of them on the stack; formula i is of kind kd i (0 a mark, 1 one, 2 two), has the number qq i and the parts ll i and rr i -/
def fr_Inv (c m z : Nat) (mk ki op le ri st kn fi se : Nat → Int32) (kd qq ll rr : Nat → Nat) : Prop :=
  c ≤ 3 ∧ m ≤ 20 ∧ z ≤ 6 ∧ (∀ i, fr_sub (mk i) 255) ∧ (∀ i, i < m → ki i = nI (kd i) ∧ op i = nI (qq i) ∧ le i = nI (ll i) ∧ ri i = nI (rr i)) ∧ (∀ i, i < m → kn i = nI (fr_cd (kd i) (qq i)) ∧ fi i = nI (ll i) ∧ se i = nI (rr i)) ∧ (∀ i, i < m → fr_ok i (kd i) (qq i) (ll i) (rr i)) ∧ (∀ j, j < z → ∃ q, q < m ∧ st j = nI q)
def i_Rel (_ : Nat) (u : SX) (v : SY) : Prop :=
  ∃ (c m z : Nat) (a mk d ki op le ri va st kn fi se sv : Nat → Int32) (kd qq ll rr : Nat → Nat), u = (nI c, nI m, nI z, a, mk, d, ki, op, le, ri, va, st) ∧ v = (nI c, nI m, nI z, a, mk, d, kn, fi, se, sv, st) ∧ fr_Inv c m z mk ki op le ri st kn fi se kd qq ll rr
theorem fr_rel {k c m z : Nat} {a mk d ki op le ri va st kn fi se sv : Nat → Int32} {kd qq ll rr : Nat → Nat} (I : fr_Inv c m z mk ki op le ri st kn fi se kd qq ll rr) : i_Rel k (nI c, nI m, nI z, a, mk, d, ki, op, le, ri, va, st) (nI c, nI m, nI z, a, mk, d, kn, fi, se, sv, st) :=
  ⟨c, m, z, a, mk, d, ki, op, le, ri, va, st, kn, fi, se, sv, kd, qq, ll, rr, rfl, rfl, I⟩
theorem fr_new {c m z z' : Nat} {mk ki op le ri st kn fi se : Nat → Int32} {kd qq ll rr : Nat → Nat} (I : fr_Inv c m z mk ki op le ri st kn fi se kd qq ll rr) (hm : m < 20) (hz : z' ≤ z) (h6 : z' < 6) {k q l r : Nat} (o : fr_ok m k q l r) {p0 p1 p2 p3 y0 y1 y2 : Int32} (h0 : p0 = nI k) (h1 : p1 = nI q) (h2 : p2 = nI l) (h3 : p3 = nI r) (g0 : y0 = nI (fr_cd k q)) (g1 : y1 = nI l) (g2 : y2 = nI r) : fr_Inv c (m + 1) (z' + 1) mk (upd ki m p0) (upd op m p1) (upd le m p2) (upd ri m p3) (upd st z' (nI m)) (upd kn m y0) (upd fi m y1) (upd se m y2) (fr_up kd m k) (fr_up qq m q) (fr_up ll m l) (fr_up rr m r) := by
  obtain ⟨i1, i2, i3, i4, i5, i6, i7, i8⟩ := I
  refine ⟨i1, by omega, by omega, i4, fun i hi => ?_, fun i hi => ?_, fun i hi => ?_, fun j hj => ?_⟩
  · by_cases e : i = m
    · subst e
      rw [pk_us, pk_us, pk_us, pk_us, fr_ups, fr_ups, fr_ups, fr_ups]
      exact ⟨h0, h1, h2, h3⟩
    · rw [pk_un e, pk_un e, pk_un e, pk_un e, fr_upn e, fr_upn e, fr_upn e, fr_upn e]
      exact i5 i (by omega)
  · by_cases e : i = m
    · subst e
      rw [pk_us, pk_us, pk_us, fr_ups, fr_ups, fr_ups, fr_ups]
      exact ⟨g0, g1, g2⟩
    · rw [pk_un e, pk_un e, pk_un e, fr_upn e, fr_upn e, fr_upn e, fr_upn e]
      exact i6 i (by omega)
  · by_cases e : i = m
    · subst e
      rw [fr_ups, fr_ups, fr_ups, fr_ups]
      exact o
    · rw [fr_upn e, fr_upn e, fr_upn e, fr_upn e]
      exact i7 i (by omega)
  · by_cases e : j = z'
    · subst e
      exact ⟨m, by omega, pk_us⟩
    · obtain ⟨q, hq, hs⟩ := i8 j (by omega)
      exact ⟨q, by omega, by rw [pk_un e]; exact hs⟩
theorem fr_mk8 {mk : Nat → Int32} {j n : Nat} (h : ∀ i, fr_sub (mk i) 255) (hn : n < 256) : ∀ i, fr_sub (upd mk j (nI n) i) 255 := by
  intro i
  by_cases e : i = j
  · rw [e, pk_us]; exact fr_set8 (by omega)
  · rw [pk_un e]; exact h i
/-! holds, as the reference walks it -/
theorem yh_0 {post : Int32 → SY → Prop} {c m : Nat} {a mk d kn fi se sv st : Nat → Int32} {kd qq ll rr : Nat → Nat} (hc : c ≤ 3) (hm : m ≤ 20) (h8 : ∀ i, fr_sub (mk i) 255) (ok : ∀ i, i < m → fr_ok i (kd i) (qq i) (ll i) (rr i)) (hk : ∀ i, i < m → kn i = nI (fr_cd (kd i) (qq i)) ∧ fi i = nI (ll i) ∧ se i = nI (rr i)) (hp : ∀ w, post (-4) (nI c, nI m, nI 0, a, mk, d, kn, fi, se, w, st)) : wpY_holds post (nI c, nI m, nI 0, a, mk, d, kn, fi, se, sv, st) :=
  yw_w hc hm h8 ok hk fun w _ => br_t rfl (hp w)
theorem yh_1 {post : Int32 → SY → Prop} {c m z q : Nat} {a mk d kn fi se sv st : Nat → Int32} {kd qq ll rr : Nat → Nat} (hc : c ≤ 3) (hm : m ≤ 20) (hz : z < 6) (h8 : ∀ i, fr_sub (mk i) 255) (ok : ∀ i, i < m → fr_ok i (kd i) (qq i) (ll i) (rr i)) (hk : ∀ i, i < m → kn i = nI (fr_cd (kd i) (qq i)) ∧ fi i = nI (ll i) ∧ se i = nI (rr i)) (hq : q < m) (hs : st z = nI q) (hp : ∀ w, fr_gd a mk d c kd qq ll rr m w → post (w q) (nI c, nI m, nI (z + 1), a, mk, d, kn, fi, se, w, st)) : wpY_holds post (nI c, nI m, nI (z + 1), a, mk, d, kn, fi, se, sv, st) := by
  refine yw_w hc hm h8 ok hk fun w hg => br_f (nI_ne0 (by omega) (by omega)) ⟨?_, ?_, ?_⟩
  · rw [nI_pred]; exact vp_in_nI hz (by decide)
  · rw [nI_pred, nI_clamp (by omega), hs]; exact vp_in_nI (by omega) (by decide)
  · rw [nI_pred, nI_clamp (by omega), hs, nI_clamp (by omega)]; exact hp w hg
