theorem fr_8t : (8 : Int32) ≤ nI 8 := by decide
theorem fr_8f {i : Nat} (h : i < 8) : ¬ (8 : Int32) ≤ nI i := nI_ge (b := 8) h (by decide)
theorem fr_c8 {i : Nat} (h : i < 8) : (nI i).toNatClampNeg = i := nI_clamp (by omega)
/-! the class's walks that only read -/
theorem xb_loop {post : Int32 → Prop} {S : Int32} {fc fm fz : Int32} {a mk d ki op le ri va st : Nat → Int32} (hp : post (fr_bf a S)) : ∀ r i, i + r = 8 → wX_before_4 post S fc fm fz a mk d ki op le ri va st (r + 1) (fr_bfN a S i) (nI i) := by
  intro r
  induction r with
  | zero =>
    intro i hi
    have e : i = 8 := by omega
    subst e
    exact br_t fr_8t hp
  | succ r ih =>
    intro i hi
    have hv : vp_in (nI i) 8 := vp_in_nI (by omega) (by decide)
    have hc : (nI i).toNatClampNeg = i := fr_c8 (by omega)
    have hn := ih (i + 1) (by omega)
    by_cases z : a i &&& S = 0
    · have e : fr_bfN a S (i + 1) = fr_bfN a S i := if_pos z
      rw [e] at hn
      exact br_f (fr_8f (by omega)) ⟨hv, br_t (by rw [hc]; exact z) (nm_r (nI_1 i) hn)⟩
    · have e : fr_bfN a S (i + 1) = fr_bfN a S i ||| ((1 : Int32) <<< (nI i &&& 31)) := if_neg z
      rw [e] at hn
      exact br_f (fr_8f (by omega)) ⟨hv, br_f (by rw [hc]; exact z) (nm_e (nm_r (nI_1 i) hn))⟩
theorem xb_w {post : Int32 → Prop} {S S' : Int32} {fc fm fz : Int32} {a mk d ki op le ri va st : Nat → Int32} (e : S' = S) (hp : post (fr_bf a S)) : wpX_before post (fc, fm, fz, a, mk, d, ki, op, le, ri, va, st) S' := by
  subst e
  exact ⟨9, xb_loop hp 8 0 rfl⟩
theorem xu_loop {post : Int32 → Prop} {f : Int32} {fc fm fz : Int32} {a mk d ki op le ri va st : Nat → Int32} : ∀ r i g, i + r = 8 → post (fr_it (fun x => x ||| (f &&& fr_bf a x)) r g) → wX_until_5 post f fc fm fz a mk d ki op le ri va st (r + 1) g (nI i) := by
  intro r
  induction r with
  | zero =>
    intro i g hi hp
    have e : i = 8 := by omega
    subst e
    exact br_t fr_8t hp
  | succ r ih =>
    intro i g hi hp
    exact br_f (fr_8f (by omega)) (xb_w rfl (nm_e (nm_r (nI_1 i) (ih (i + 1) _ (by omega) hp))))
theorem xu_w {post : Int32 → Prop} {f g g' : Int32} {fc fm fz : Int32} {a mk d ki op le ri va st : Nat → Int32} (e : g' = g) (hp : post (fr_un a f g)) : wpX_until post (fc, fm, fz, a, mk, d, ki, op, le, ri, va, st) f g' := by
  subst e
  exact ⟨9, xu_loop 8 0 g' rfl hp⟩
theorem xs_in {post : Int32 → Prop} {J4 : Int32 → Int32 → Prop} {f x3 : Int32} {c : Nat} {fm fz : Int32} {a mk d ki op le ri va st : Nat → Int32} (hc : c ≤ 3) : ∀ r j k, j + r = c → J4 (fr_dm a d (fun _ => f) r j k) (x3 + 1) → wX_someAlways_21 post J4 f x3 (nI c) fm fz a mk d ki op le ri va st (r + 1) k (nI j) := by
  intro r
  induction r with
  | zero =>
    intro j k hj hp
    exact br_t (nI_le (by omega) (by omega)) (nm_e hp)
  | succ r ih =>
    intro j k hj hp
    exact br_f (nI_ge (by omega) (by omega)) ⟨vp_in_nI (by omega) (by decide), xu_w (by rw [nI_clamp (by omega)]) (xb_w rfl (nm_e (nm_r (nI_1 j) (ih (j + 1) _ (by omega) hp))))⟩
theorem xs_loop {post : Int32 → Prop} {f : Int32} {c : Nat} {fm fz : Int32} {a mk d ki op le ri va st : Nat → Int32} (hc : c ≤ 3) : ∀ r i k, i + r = 8 → post (fr_it (fr_rd a d c (fun _ => f)) r k) → wX_someAlways_4 post f (nI c) fm fz a mk d ki op le ri va st (r + 1) k (nI i) := by
  intro r
  induction r with
  | zero =>
    intro i k hi hp
    have e : i = 8 := by omega
    subst e
    exact br_t fr_8t hp
  | succ r ih =>
    intro i k hi hp
    have hn := ih (i + 1) _ (by omega) hp
    rw [← nI_1 i] at hn
    exact br_f (fr_8f (by omega)) (xb_w rfl (nm_e ⟨c + 1, xs_in hc c 0 _ (by omega) hn⟩))
theorem xs_w {post : Int32 → Prop} {f f' : Int32} {c : Nat} {fm fz : Int32} {a mk d ki op le ri va st : Nat → Int32} (hc : c ≤ 3) (e : f' = f) (hp : post (fr_sa a d c f)) : wpX_someAlways post (nI c, fm, fz, a, mk, d, ki, op, le, ri, va, st) f' := by
  subst e
  exact ⟨9, xs_loop hc 8 0 f' rfl hp⟩
theorem xa_loop {post : Int32 → Prop} {S : Int32} {fc fm fz : Int32} {a mk d ki op le ri va st : Nat → Int32} (hp : post (fr_af a S)) : ∀ r i, i + r = 8 → wX_after_4 post S fc fm fz a mk d ki op le ri va st (r + 1) (fr_afN a S i) (nI i) := by
  intro r
  induction r with
  | zero =>
    intro i hi
    have e : i = 8 := by omega
    subst e
    exact br_t fr_8t hp
  | succ r ih =>
    intro i hi
    have hv : vp_in (nI i) 8 := vp_in_nI (by omega) (by decide)
    have hc : (nI i).toNatClampNeg = i := fr_c8 (by omega)
    have hn := ih (i + 1) (by omega)
    by_cases z : S &&& ((1 : Int32) <<< (nI i &&& 31)) = 0
    · have e : fr_afN a S (i + 1) = fr_afN a S i := if_pos z
      rw [e] at hn
      exact br_f (fr_8f (by omega)) (br_t z (nm_r (nI_1 i) hn))
    · have e : fr_afN a S (i + 1) = fr_afN a S i ||| a i := if_neg z
      rw [e] at hn
      exact br_f (fr_8f (by omega)) (br_f z ⟨hv, nm_r (by rw [hc]) (nm_r (nI_1 i) hn)⟩)
theorem xa_w {post : Int32 → Prop} {S S' : Int32} {fc fm fz : Int32} {a mk d ki op le ri va st : Nat → Int32} (e : S' = S) (hp : post (fr_af a S)) : wpX_after post (fc, fm, fz, a, mk, d, ki, op, le, ri, va, st) S' := by
  subst e
  exact ⟨9, xa_loop hp 8 0 rfl⟩
theorem xc_loop {post : Int32 → Prop} {fc fm fz : Int32} {a mk d ki op le ri va st : Nat → Int32} : ∀ r i g, i + r = 8 → post (fr_it (fun x => x ||| fr_af a x) r g) → wX_closure_4 post fc fm fz a mk d ki op le ri va st (r + 1) g (nI i) := by
  intro r
  induction r with
  | zero =>
    intro i g hi hp
    have e : i = 8 := by omega
    subst e
    exact br_t fr_8t hp
  | succ r ih =>
    intro i g hi hp
    exact br_f (fr_8f (by omega)) (xa_w rfl (nm_e (nm_r (nI_1 i) (ih (i + 1) _ (by omega) hp))))
theorem xc_w {post : Int32 → Prop} {g g' : Int32} {fc fm fz : Int32} {a mk d ki op le ri va st : Nat → Int32} (e : g' = g) (hp : post (fr_cl a g)) : wpX_closure post (fc, fm, fz, a, mk, d, ki, op, le, ri, va, st) g' := by
  subst e
  exact ⟨9, xc_loop 8 0 g' rfl hp⟩
/-! the reference's -/
theorem yb_loop {post : Int32 → Prop} {S : Int32} {fc fm fz : Int32} {a mk d kn fi se sv st : Nat → Int32} (hp : post (fr_bf a S)) : ∀ r i, i + r = 8 → wY_before_4 post S fc fm fz a mk d kn fi se sv st (r + 1) (fr_bfN a S i) (nI i) := by
  intro r
  induction r with
  | zero =>
    intro i hi
    have e : i = 8 := by omega
    subst e
    exact br_t fr_8t hp
  | succ r ih =>
    intro i hi
    have hv : vp_in (nI i) 8 := vp_in_nI (by omega) (by decide)
    have hc : (nI i).toNatClampNeg = i := fr_c8 (by omega)
    have hn := ih (i + 1) (by omega)
    by_cases z : a i &&& S = 0
    · have e : fr_bfN a S (i + 1) = fr_bfN a S i := if_pos z
      rw [e] at hn
      exact br_f (fr_8f (by omega)) ⟨hv, br_t (by rw [hc]; exact z) (nm_r (nI_1 i) hn)⟩
    · have e : fr_bfN a S (i + 1) = fr_bfN a S i ||| ((1 : Int32) <<< (nI i &&& 31)) := if_neg z
      rw [e] at hn
      exact br_f (fr_8f (by omega)) ⟨hv, br_f (by rw [hc]; exact z) (nm_e (nm_r (nI_1 i) hn))⟩
theorem yb_w {post : Int32 → Prop} {S S' : Int32} {fc fm fz : Int32} {a mk d kn fi se sv st : Nat → Int32} (e : S' = S) (hp : post (fr_bf a S)) : wpY_before post (fc, fm, fz, a, mk, d, kn, fi, se, sv, st) S' := by
  subst e
  exact ⟨9, yb_loop hp 8 0 rfl⟩
theorem yu_loop {post : Int32 → Prop} {f : Int32} {fc fm fz : Int32} {a mk d kn fi se sv st : Nat → Int32} : ∀ r i g, i + r = 8 → post (fr_it (fun x => x ||| (f &&& fr_bf a x)) r g) → wY_coming_5 post f fc fm fz a mk d kn fi se sv st (r + 1) g (nI i) := by
  intro r
  induction r with
  | zero =>
    intro i g hi hp
    have e : i = 8 := by omega
    subst e
    exact br_t fr_8t hp
  | succ r ih =>
    intro i g hi hp
    exact br_f (fr_8f (by omega)) (yb_w rfl (nm_r (e' := g ||| (f &&& fr_bf a g)) (by rw [fr_ac]) (nm_r (nI_1 i) (ih (i + 1) _ (by omega) hp))))
theorem yu_w {post : Int32 → Prop} {f g g' : Int32} {fc fm fz : Int32} {a mk d kn fi se sv st : Nat → Int32} (e : g' = g) (hp : post (fr_un a f g)) : wpY_coming post (fc, fm, fz, a, mk, d, kn, fi, se, sv, st) f g' := by
  subst e
  exact ⟨9, yu_loop 8 0 g' rfl hp⟩
theorem ys_in {post : Int32 → Prop} {J4 : Int32 → Int32 → Prop} {x3 : Int32} {c : Nat} {fm fz : Int32} {a mk d kn fi se sv st : Nat → Int32} (hc : c ≤ 3) : ∀ r j k, j + r = c → J4 (fr_dm a d (fun x => x) r j k) x3 → wY_staying_22 post J4 x3 (nI c) fm fz a mk d kn fi se sv st (r + 1) k (nI j) := by
  intro r
  induction r with
  | zero =>
    intro j k hj hp
    exact br_t (nI_le (by omega) (by omega)) hp
  | succ r ih =>
    intro j k hj hp
    exact br_f (nI_ge (by omega) (by omega)) ⟨vp_in_nI (by omega) (by decide), yu_w (by rw [nI_clamp (by omega)]) (yb_w rfl (nm_e (nm_r (nI_1 j) (ih (j + 1) _ (by omega) hp))))⟩
theorem ys_loop {post : Int32 → Prop} {f : Int32} {c : Nat} {fm fz : Int32} {a mk d kn fi se sv st : Nat → Int32} (hc : c ≤ 3) (h8 : fr_sub f 255) (hp : post (fr_sa a d c f)) : ∀ n k old, fr_sub (fr_sa a d c f) k → fr_sub k f → (k = old → fr_rd a d c (fun x => x) k = k) → (k = old ∨ fr_cn (bt k) 8 < n) → wY_staying_4 post (nI c) fm fz a mk d kn fi se sv st (n + 1) k old := by
  intro n
  induction n with
  | zero =>
    intro k old hk kf hf hn
    have e : k = old := hn.elim id (fun z => absurd z (Nat.not_lt_zero _))
    have e2 := fr_sa_e hk kf (hf e)
    exact br_t e (by rw [e2]; exact hp)
  | succ n ih =>
    intro k old hk kf hf hn
    by_cases e : k = old
    · have e2 := fr_sa_e hk kf (hf e)
      exact br_t e (by rw [e2]; exact hp)
    · have hn' : fr_cn (bt k) 8 < n + 1 := hn.elim (fun z => absurd z e) id
      have hs := fr_rd_s a d c (fun x => x) k
      have hnx := ih (fr_rd a d c (fun x => x) k) k (fr_sa_y h8 hk) (fr_tr hs kf) (fun z => by rw [z]; exact z) (by
        by_cases z : fr_rd a d c (fun x => x) k = k
        · exact Or.inl z
        · obtain ⟨i, q, r⟩ := fr_ne z hs
          have := fr_cn_lt hs q r 8 (fr_255.mp (fr_tr kf h8) i q)
          exact Or.inr (by omega))
      exact br_f e (yb_w rfl (nm_e ⟨c + 1, ys_in hc c 0 _ (by omega) hnx⟩))
theorem fr_m1 {f : Int32} (h8 : fr_sub f 255) : ¬ f = -1 := fun e => by
  have h := fr_255.mp h8 31 (by rw [e]; exact b_m1 31 (by decide))
  omega
theorem ys_w {post : Int32 → Prop} {f f' : Int32} {c : Nat} {fm fz : Int32} {a mk d kn fi se sv st : Nat → Int32} (hc : c ≤ 3) (h8 : fr_sub f 255) (e : f' = f) (hp : post (fr_sa a d c f)) : wpY_staying post (nI c, fm, fz, a, mk, d, kn, fi, se, sv, st) f' := by
  subst e
  exact ⟨10, ys_loop hc h8 hp 9 f' (-1) (fr_sa_s a d c f') (fr_refl f') (fun z => absurd z (fr_m1 h8)) (Or.inr (Nat.lt_succ_of_le (fr_cn_le _ 8)))⟩
theorem ya_loop {post : Int32 → Prop} {S : Int32} {fc fm fz : Int32} {a mk d kn fi se sv st : Nat → Int32} (hp : post (fr_af a S)) : ∀ r i, i + r = 8 → wY_behind_4 post S fc fm fz a mk d kn fi se sv st (r + 1) (fr_afN a S i) (nI i) := by
  intro r
  induction r with
  | zero =>
    intro i hi
    have e : i = 8 := by omega
    subst e
    exact br_t fr_8t hp
  | succ r ih =>
    intro i hi
    have hv : vp_in (nI i) 8 := vp_in_nI (by omega) (by decide)
    have hc : (nI i).toNatClampNeg = i := fr_c8 (by omega)
    have hn := ih (i + 1) (by omega)
    by_cases z : S &&& ((1 : Int32) <<< (nI i &&& 31)) = 0
    · have e : fr_afN a S (i + 1) = fr_afN a S i := if_pos z
      rw [e] at hn
      exact br_f (fr_8f (by omega)) (br_f (fun w => (fr_sh (by omega)).mp w z) (nm_r (nI_1 i) hn))
    · have e : fr_afN a S (i + 1) = fr_afN a S i ||| a i := if_neg z
      rw [e] at hn
      exact br_f (fr_8f (by omega)) (br_t ((fr_sh (by omega)).mpr z) ⟨hv, nm_r (by rw [hc]) (nm_r (nI_1 i) hn)⟩)
theorem ya_w {post : Int32 → Prop} {S S' : Int32} {fc fm fz : Int32} {a mk d kn fi se sv st : Nat → Int32} (e : S' = S) (hp : post (fr_af a S)) : wpY_behind post (fc, fm, fz, a, mk, d, kn, fi, se, sv, st) S' := by
  subst e
  exact ⟨9, ya_loop hp 8 0 rfl⟩
