/-! what is owed -/
def i_Rel (_ : Nat) (u : SX) (y : SY) : Prop :=
  ∃ (lv kd : Nat → Nat) (mn : Nat → Int32) (T : Nat → Nat) (n : Nat) (K L M K2 L2 M2 X X2 : Nat → Int32) (wa wb wc : Int32) (s o v : Nat → Int32) (m : Int32) (R s2 v2 o2 fr tu kf kt pn : Nat → Int32),
    n ≤ 15 ∧ mx_G lv kd mn K L M ∧ mx_G lv kd mn K2 L2 M2 ∧ mx_A X T n ∧ mx_A X2 T n ∧ u = ((nI n), wa, wb, wc, K, L, M, X, s, o, v) ∧ y = ((nI n), m, K2, L2, M2, X2, R, s2, v2, o2, fr, tu, kf, kt, pn)
theorem i_up {k : Nat} {u : SX} {v : SY} (h : i_Rel k u v) : i_Rel (k + 4) u v := h
theorem mr_mk {k : Nat} {lv kd : Nat → Nat} {mn : Nat → Int32} {T : Nat → Nat} {n : Nat} {K L M K2 L2 M2 X X2 : Nat → Int32} {wa wb wc : Int32} {s o v : Nat → Int32} {m : Int32} {R s2 v2 o2 fr tu kf kt pn : Nat → Int32}
    (hn : n ≤ 15) (hG : mx_G lv kd mn K L M) (hG2 : mx_G lv kd mn K2 L2 M2) (hX : mx_A X T n) (hX2 : mx_A X2 T n) : i_Rel k ((nI n), wa, wb, wc, K, L, M, X, s, o, v) ((nI n), m, K2, L2, M2, X2, R, s2, v2, o2, fr, tu, kf, kt, pn) :=
  ⟨lv, kd, mn, T, n, K, L, M, K2, L2, M2, X, X2, wa, wb, wc, s, o, v, m, R, s2, v2, o2, fr, tu, kf, kt, pn, hn, hG, hG2, hX, hX2, rfl, rfl⟩
/-! a new object -/
def mr_lv (t : Nat) : Nat := if t < 16 then (t - 10) / 2 else if t < 18 then t - 13 else 0
def mr_mn (t : Nat) : Int32 := nI (t - 10) &&& 3
theorem mr_G0 {L M : Nat → Int32} (h : ∀ x, x < 8 → L x = nI (mr_lv (x + 10)) ∧ M x = nI x &&& 3) : mx_G mr_lv (fun _ => 0) mr_mn (fun _ => 0) L M := by
  refine ⟨fun _ => (by decide : 0 < 5), fun t => ?_, fun k _ => nI_0.symm, fun t h1 h2 => ?_, fun t h1 h2 => ?_⟩
  · unfold mr_lv
    split
    · omega
    · split <;> omega
  · have e : t - 10 + 10 = t := by omega
    have := (h (t - 10) (by omega)).1
    rw [e] at this
    exact this
  · exact (h (t - 10) (by omega)).2
theorem mr_l1 {x : Nat} (h : ¬ 6 ≤ x) : mr_lv (x + 10) = x / 2 := by
  unfold mr_lv
  rw [if_pos (by omega)]
  omega
theorem mr_l2 {x : Nat} (h : 6 ≤ x) (h8 : x < 8) : mr_lv (x + 10) = x - 3 := by
  unfold mr_lv
  rw [if_neg (by omega), if_pos (by omega)]
  omega
theorem mr_iX {post : SX → Prop} {z wa wb wc : Int32} {K X s o v : Nat → Int32} (H : ∀ L M, (∀ x, x < 8 → L x = nI (mr_lv (x + 10)) ∧ M x = nI x &&& 3) → post (z, wa, wb, wc, K, L, M, X, s, o, v)) :
    ∀ d i L M, i + d = 8 → (∀ x, x < i → L x = nI (mr_lv (x + 10)) ∧ M x = nI x &&& 3) → wX_init_84 post z wa wb wc (d + 1) (nI i) K L M X s o v := by
  intro d
  induction d with
  | zero =>
    intro i L M hi hb
    exact br_t (nI_le (a := 8) (by omega) (by omega)) (H L M (fun x hx => hb x (by omega)))
  | succ d ih =>
    intro i L M hi hb
    have i8 : vp_in (nI i) 8 := vp_in_nI (by omega) (by omega)
    have ci : (nI i).toNatClampNeg = i := nI_clamp (by omega)
    have nx : ∀ x, x < i + 1 → upd L i (nI (mr_lv (i + 10))) x = nI (mr_lv (x + 10)) ∧ upd M i (nI i &&& 3) x = nI x &&& 3 := by
      intro x hx
      by_cases e : x = i
      · rw [e]
        exact ⟨pk_us, pk_us⟩
      · rw [pk_un e, pk_un e]
        exact hb x (by omega)
    refine br_f (nI_ge (b := 8) (by omega) (by decide)) (my_if (d := 6 ≤ i) (nI_leI (a := 6) (by decide) (by omega)) (fun c => ⟨i8, nm_r (e' := upd L i (nI (mr_lv (i + 10)))) ?_ ⟨i8, nm_r (e' := upd M i (nI i &&& 3)) (by rw [ci]) (nm_r (nI_1 i) (ih (i + 1) _ _ (by omega) nx))⟩⟩) (fun c => ⟨by decide, i8, nm_r (e' := upd L i (nI (mr_lv (i + 10)))) ?_ ⟨i8, nm_r (e' := upd M i (nI i &&& 3)) (by rw [ci]) (nm_r (nI_1 i) (ih (i + 1) _ _ (by omega) nx))⟩⟩))
    · rw [ci, mr_l2 c (by omega)]
      exact congrArg (fun a => upd L i a) (pk_sub (b := 3) (by omega))
    · rw [ci, mr_l1 c]
      exact congrArg (fun a => upd L i a) (pk_div (d := 2) (by omega) (by decide) (by decide))
theorem mr_iY {post : SY → Prop} {z m : Int32} {K X R s v o fr tu kf kt pn : Nat → Int32} (H : ∀ L M, (∀ x, x < 8 → L x = nI (mr_lv (x + 10)) ∧ M x = nI x &&& 3) → post (z, m, K, L, M, X, R, s, v, o, fr, tu, kf, kt, pn)) :
    ∀ d i L M, i + d = 8 → (∀ x, x < i → L x = nI (mr_lv (x + 10)) ∧ M x = nI x &&& 3) → wY_init_112 post z m (d + 1) (nI i) K L M X R s v o fr tu kf kt pn := by
  intro d
  induction d with
  | zero =>
    intro i L M hi hb
    exact br_t (nI_le (a := 8) (by omega) (by omega)) (H L M (fun x hx => hb x (by omega)))
  | succ d ih =>
    intro i L M hi hb
    have i8 : vp_in (nI i) 8 := vp_in_nI (by omega) (by omega)
    have ci : (nI i).toNatClampNeg = i := nI_clamp (by omega)
    have nx : ∀ x, x < i + 1 → upd L i (nI (mr_lv (i + 10))) x = nI (mr_lv (x + 10)) ∧ upd M i (nI i &&& 3) x = nI x &&& 3 := by
      intro x hx
      by_cases e : x = i
      · rw [e]
        exact ⟨pk_us, pk_us⟩
      · rw [pk_un e, pk_un e]
        exact hb x (by omega)
    refine br_f (nI_ge (b := 8) (by omega) (by decide)) (my_if (d := 6 ≤ i) (nI_leI (a := 6) (by decide) (by omega)) (fun c => ⟨i8, nm_r (e' := upd L i (nI (mr_lv (i + 10)))) ?_ ⟨i8, nm_r (e' := upd M i (nI i &&& 3)) (by rw [ci]) (nm_r (nI_1 i) (ih (i + 1) _ _ (by omega) nx))⟩⟩) (fun c => ⟨by decide, i8, nm_r (e' := upd L i (nI (mr_lv (i + 10)))) ?_ ⟨i8, nm_r (e' := upd M i (nI i &&& 3)) (by rw [ci]) (nm_r (nI_1 i) (ih (i + 1) _ _ (by omega) nx))⟩⟩))
    · rw [ci, mr_l2 c (by omega)]
      exact congrArg (fun a => upd L i a) (pk_sub (b := 3) (by omega))
    · rw [ci, mr_l1 c]
      exact congrArg (fun a => upd L i a) (pk_div (d := 2) (by omega) (by decide) (by decide))
theorem i_vc0 : wpX_init (fun u => wpY_init (fun v => i_Rel 0 u v)) := by
  refine ⟨9, mr_iX (fun L M h => ⟨9, mr_iY (fun L2 M2 h2 => ?_) 8 0 (fun _ => 0) (fun _ => 0) (by decide) (fun x hx => absurd hx (by omega))⟩) 8 0 (fun _ => 0) (fun _ => 0) (by decide) (fun x hx => absurd hx (by omega))⟩
  exact mr_mk (T := fun _ => 0) (n := 0) (by decide) (mr_G0 h) (mr_G0 h2) ⟨fun j hj => absurd hj (by omega), fun _ => (by decide : 0 < 20)⟩ ⟨fun j hj => absurd hj (by omega), fun _ => (by decide : 0 < 20)⟩
theorem mr_Gk {lv kd : Nat → Nat} {mn : Nat → Int32} {K L M : Nat → Int32} {a b : Nat} (hG : mx_G lv kd mn K L M) (hb : b < 5) : mx_G lv (fun x => if x = a then b else kd x) mn (upd K a (nI b)) L M := by
  obtain ⟨g1, g2, g3, g4, g5⟩ := hG
  refine ⟨fun k => ?_, g2, fun k hk => ?_, g4, g5⟩
  · show (if k = a then b else kd k) < 5
    split
    · exact hb
    · exact g1 k
  · show upd K a (nI b) k = nI (if k = a then b else kd k)
    by_cases e : k = a
    · rw [if_pos e, e]
      exact pk_us
    · rw [if_neg e, pk_un e]
      exact g3 k hk
theorem mr_Go {lv kd : Nat → Nat} {mn : Nat → Int32} {K L M : Nat → Int32} {a b : Nat} {c : Int32} (hG : mx_G lv kd mn K L M) (hb : b < 5) : mx_G (fun t => if t = a + 10 then b else lv t) kd (fun t => if t = a + 10 then c else mn t) K (upd L a (nI b)) (upd M a c) := by
  obtain ⟨g1, g2, g3, g4, g5⟩ := hG
  refine ⟨g1, fun t => ?_, g3, fun t h1 h2 => ?_, fun t h1 h2 => ?_⟩
  · show (if t = a + 10 then b else lv t) < 5
    split
    · exact hb
    · exact g2 t
  · show upd L a (nI b) (t - 10) = nI (if t = a + 10 then b else lv t)
    by_cases e : t = a + 10
    · have e2 : t - 10 = a := by omega
      rw [if_pos e, e2]
      exact pk_us
    · rw [if_neg e, pk_un (by omega)]
      exact g4 t h1 h2
  · show upd M a c (t - 10) = (if t = a + 10 then c else mn t)
    by_cases e : t = a + 10
    · have e2 : t - 10 = a := by omega
      rw [if_pos e, e2]
      exact pk_us
    · rw [if_neg e, pk_un (by omega)]
      exact g5 t h1 h2
theorem i_vc_level {k : Nat} {u : SX} {v : SY} (I : i_Rel k u v) (hk : k + 4 ≤ 2048) (v1 : Int32) (v2 : Int32) : wpX_level (fun r u' => wpY_level (fun r' v' => r' = r ∧ i_Rel (k + 4) u' v') v v1 v2) u v1 v2 := by
  obtain ⟨lv, kd, mn, T, n, K, L, M, K2, L2, M2, X, X2, wa, wb, wc, s, o, v, m, R, s2, v2', o2, fr, tu, kf, kt, pn, hn, hG, hG2, hX, hX2, rfl, rfl⟩ := I
  have same := mr_mk (k := k + 4) (wa := wa) (wb := wb) (wc := wc) (s := s) (o := o) (v := v) (m := m) (R := R) (s2 := s2) (v2 := v2') (o2 := o2) (fr := fr) (tu := tu) (kf := kf) (kt := kt) (pn := pn) hn hG hG2 hX hX2
  by_cases c0 : v1 < 0
  · exact br_t c0 (br_t c0 ⟨rfl, same⟩)
  · obtain ⟨a, ha, rfl⟩ := nI_of c0
    by_cases ca : a < 5
    · have x1 : ¬ (5 : Int32) ≤ nI a := nI_ge (b := 5) ca (by decide)
      have y1 : ¬ (4 : Int32) < nI a := nI_nlt (a := 4) (by omega) (by decide)
      by_cases c1 : v2 < 0
      · exact br_f c0 (br_f x1 (br_t c1 (br_f c0 (br_f y1 (br_t c1 ⟨rfl, same⟩)))))
      · obtain ⟨b, hb, rfl⟩ := nI_of c1
        by_cases cb : b < 5
        · have i5 : vp_in (nI a) 5 := vp_in_nI ca (by decide)
          have cc : (nI a).toNatClampNeg = a := nI_clamp ha
          have ex : K (nI a).toNatClampNeg = nI (kd a) := by rw [cc]; exact hG.2.2.1 a ca
          have ey : K2 (nI a).toNatClampNeg = nI (kd a) := by rw [cc]; exact hG2.2.2.1 a ca
          exact br_f c0 (br_f x1 (br_f c1 (br_t (nI_lt (b := 5) cb (by decide)) ⟨i5, nm_r ex ⟨i5, nm_r (e' := upd K a (nI b)) (by rw [cc]) (br_f c0 (br_f y1 (br_f c1 (br_t (nI_le (b := 4) (by omega) (by decide)) ⟨i5, nm_r ey ⟨i5, nm_r (e' := upd K2 a (nI b)) (by rw [cc]) ⟨rfl, mr_mk hn (mr_Gk hG cb) (mr_Gk hG2 cb) hX hX2⟩⟩⟩))))⟩⟩)))
        · exact br_f c0 (br_f x1 (br_f c1 (br_f (nI_nlt (b := 5) (by omega) hb) (br_f c0 (br_f y1 (br_f c1 (br_f (nI_ge (a := 4) (by omega) hb) ⟨rfl, same⟩)))))))
    · exact br_f c0 (br_t (nI_le (a := 5) (by omega) ha) (br_f c0 (br_t (nI_lt (a := 4) (by omega) ha) ⟨rfl, same⟩)))
theorem i_vc_operator {k : Nat} {u : SX} {v : SY} (I : i_Rel k u v) (hk : k + 4 ≤ 2048) (v1 : Int32) (v2 : Int32) (v3 : Int32) : wpX_operator (fun r u' => wpY_operator (fun r' v' => r' = r ∧ i_Rel (k + 4) u' v') v v1 v2 v3) u v1 v2 v3 := by
  obtain ⟨lv, kd, mn, T, n, K, L, M, K2, L2, M2, X, X2, wa, wb, wc, s, o, v, m, R, s2, v2', o2, fr, tu, kf, kt, pn, hn, hG, hG2, hX, hX2, rfl, rfl⟩ := I
  have same := mr_mk (k := k + 4) (wa := wa) (wb := wb) (wc := wc) (s := s) (o := o) (v := v) (m := m) (R := R) (s2 := s2) (v2 := v2') (o2 := o2) (fr := fr) (tu := tu) (kf := kf) (kt := kt) (pn := pn) hn hG hG2 hX hX2
  by_cases c0 : v1 < 0
  · exact br_t c0 (br_t c0 ⟨rfl, same⟩)
  · obtain ⟨a, ha, rfl⟩ := nI_of c0
    by_cases ca : a < 8
    · have x1 : ¬ (8 : Int32) ≤ nI a := nI_ge (b := 8) ca (by decide)
      have y1 : ¬ (7 : Int32) < nI a := nI_nlt (a := 7) (by omega) (by decide)
      by_cases c1 : v2 < 0
      · exact br_f c0 (br_f x1 (br_t c1 (br_f c0 (br_f y1 (br_t c1 ⟨rfl, same⟩)))))
      · obtain ⟨b, hb, rfl⟩ := nI_of c1
        by_cases cb : b < 5
        · have x2 : ¬ (5 : Int32) ≤ nI b := nI_ge (b := 5) cb (by decide)
          have y2 : ¬ (4 : Int32) < nI b := nI_nlt (a := 4) (by omega) (by decide)
          by_cases c2 : v3 < 0
          · exact br_f c0 (br_f x1 (br_f c1 (br_f x2 (br_t c2 (br_f c0 (br_f y1 (br_f c1 (br_f y2 (br_t c2 ⟨rfl, same⟩)))))))))
          · obtain ⟨e, he, rfl⟩ := nI_of c2
            by_cases ce : e < 4
            · have i8 : vp_in (nI a) 8 := vp_in_nI ca (by decide)
              have cc : (nI a).toNatClampNeg = a := nI_clamp ha
              have e10 : a + 10 - 10 = a := by omega
              have ex : L (nI a).toNatClampNeg = nI (lv (a + 10)) := by
                have := hG.2.2.2.1 (a + 10) (by omega) (by omega)
                rw [e10] at this
                rw [cc]
                exact this
              have ey : L2 (nI a).toNatClampNeg = nI (lv (a + 10)) := by
                have := hG2.2.2.2.1 (a + 10) (by omega) (by omega)
                rw [e10] at this
                rw [cc]
                exact this
              refine br_f c0 (br_f x1 (br_f c1 (br_f x2 (br_f c2 (br_t (nI_lt (b := 4) ce (by decide)) ⟨i8, nm_r ex ⟨i8, nm_r (e' := upd L a (nI b)) (by rw [cc]) ⟨i8, nm_r (e' := upd M a (nI e)) (by rw [cc]) ?_⟩⟩⟩)))))
              exact br_f c0 (br_f y1 (br_f c1 (br_f y2 (br_f c2 (br_t (nI_le (b := 3) (by omega) (by decide)) ⟨i8, nm_r ey ⟨i8, nm_r (e' := upd L2 a (nI b)) (by rw [cc]) ⟨i8, nm_r (e' := upd M2 a (nI e)) (by rw [cc]) ⟨rfl, mr_mk hn (mr_Go hG cb) (mr_Go hG2 cb) hX hX2⟩⟩⟩⟩)))))
            · exact br_f c0 (br_f x1 (br_f c1 (br_f x2 (br_f c2 (br_f (nI_nlt (b := 4) (by omega) he) (br_f c0 (br_f y1 (br_f c1 (br_f y2 (br_f c2 (br_f (nI_ge (a := 3) (by omega) he) ⟨rfl, same⟩)))))))))))
        · exact br_f c0 (br_f x1 (br_f c1 (br_t (nI_le (a := 5) (by omega) hb) (br_f c0 (br_f y1 (br_f c1 (br_t (nI_lt (a := 4) (by omega) hb) ⟨rfl, same⟩)))))))
    · exact br_f c0 (br_t (nI_le (a := 8) (by omega) ha) (br_f c0 (br_t (nI_lt (a := 7) (by omega) ha) ⟨rfl, same⟩)))
theorem i_vc_token {k : Nat} {u : SX} {v : SY} (I : i_Rel k u v) (hk : k + 4 ≤ 2048) (v1 : Int32) : wpX_token (fun r u' => wpY_token (fun r' v' => r' = r ∧ i_Rel (k + 4) u' v') v v1) u v1 := by
  obtain ⟨lv, kd, mn, T, n, K, L, M, K2, L2, M2, X, X2, wa, wb, wc, s, o, v, m, R, s2, v2, o2, fr, tu, kf, kt, pn, hn, hG, hG2, hX, hX2, rfl, rfl⟩ := I
  have same := mr_mk (k := k + 4) (wa := wa) (wb := wb) (wc := wc) (s := s) (o := o) (v := v) (m := m) (R := R) (s2 := s2) (v2 := v2) (o2 := o2) (fr := fr) (tu := tu) (kf := kf) (kt := kt) (pn := pn) hn hG hG2 hX hX2
  by_cases c0 : v1 < 0
  · exact br_t c0 (br_t c0 ⟨rfl, same⟩)
  · obtain ⟨a, ha, rfl⟩ := nI_of c0
    by_cases ca : a < 20
    · have x1 : nI a < (20 : Int32) := nI_lt (b := 20) ca (by decide)
      have y1 : nI a ≤ (19 : Int32) := nI_le (b := 19) (by omega) (by decide)
      by_cases cn : n < 15
      · have cc : (nI n).toNatClampNeg = n := nI_clamp (by omega)
        have n15 : ¬ nI n = (15 : Int32) := fun e => absurd ((nI_eq (b := 15) (by omega) (by decide)).mp e) (by omega)
        refine br_f c0 (br_t x1 (br_t (nI_lt (b := 15) cn (by decide)) ⟨vp_in_nI (by omega) (by decide), nm_r (e' := upd X n (nI a)) (by rw [cc]) (nm_r (nI_1 n) ?_)⟩))
        exact br_f c0 (br_t y1 (br_f n15 ⟨vp_in_nI (by omega) (by decide), nm_r (e' := upd X2 n (nI a)) (by rw [cc]) (nm_r (nI_1 n) ⟨rfl, mr_mk (by omega) hG hG2 (mx_atA hX.1 hX.2 ca) (mx_atA hX2.1 hX.2 ca)⟩)⟩))
      · have e : n = 15 := by omega
        subst e
        exact br_f c0 (br_t x1 (br_f (by decide) (br_f c0 (br_t y1 (br_t rfl ⟨rfl, same⟩)))))
    · exact br_f c0 (br_f (nI_nlt (b := 20) (by omega) ha) (br_f c0 (br_f (nI_ge (a := 19) (by omega) ha) ⟨rfl, same⟩)))
theorem i_vc_untoken {k : Nat} {u : SX} {v : SY} (I : i_Rel k u v) (hk : k + 4 ≤ 2048) : wpX_untoken (fun r u' => wpY_untoken (fun r' v' => r' = r ∧ i_Rel (k + 4) u' v') v) u := by
  obtain ⟨lv, kd, mn, T, n, K, L, M, K2, L2, M2, X, X2, wa, wb, wc, s, o, v, m, R, s2, v2, o2, fr, tu, kf, kt, pn, hn, hG, hG2, hX, hX2, rfl, rfl⟩ := I
  cases n with
  | zero => exact br_t rfl (br_t rfl ⟨rfl, mr_mk hn hG hG2 hX hX2⟩)
  | succ n =>
    have n0 : ¬ nI (n + 1) = 0 := nI_ne0 (by omega) (by omega)
    have cc : (nI n).toNatClampNeg = n := nI_clamp (by omega)
    refine br_f n0 (nm_r (nI_pred n) ⟨vp_in_nI (by omega) (by decide), br_f n0 (nm_r (nI_pred n) ⟨vp_in_nI (by omega) (by decide), ?_, mr_mk (by omega) hG hG2 ⟨fun j hj => hX.1 j (by omega), hX.2⟩ ⟨fun j hj => hX2.1 j (by omega), hX.2⟩⟩)⟩)
    rw [cc, hX.1 n (by omega), hX2.1 n (by omega)]
theorem i_vc_clear {k : Nat} {u : SX} {v : SY} (I : i_Rel k u v) (hk : k + 4 ≤ 2048) : wpX_clear (fun u' => wpY_clear (fun v' => i_Rel (k + 4) u' v') v) u := by
  obtain ⟨lv, kd, mn, T, n, K, L, M, K2, L2, M2, X, X2, wa, wb, wc, s, o, v, m, R, s2, v2, o2, fr, tu, kf, kt, pn, hn, hG, hG2, hX, hX2, rfl, rfl⟩ := I
  exact mr_mk (k := k + 4) (n := 0) (T := T) (by decide) hG hG2 ⟨fun j hj => absurd hj (by omega), hX.2⟩ ⟨fun j hj => absurd hj (by omega), hX.2⟩
theorem i_vc_size {k : Nat} {u : SX} {v : SY} (I : i_Rel k u v) (hk : k + 4 ≤ 2048) : wpX_size (fun r => wpY_size (fun r' => r' = r ∧ i_Rel (k + 4) u v) v) u := by
  obtain ⟨lv, kd, mn, T, n, K, L, M, K2, L2, M2, X, X2, wa, wb, wc, s, o, v, m, R, s2, v2, o2, fr, tu, kf, kt, pn, hn, hG, hG2, hX, hX2, rfl, rfl⟩ := I
  exact ⟨rfl, mr_mk hn hG hG2 hX hX2⟩
theorem mr_c1 {lv kd : Nat → Nat} {mn : Nat → Int32} {T : Nat → Nat} {n : Nat} {cb : Int} {S : Nat → Nat → Int} {V : Nat → Nat → Int32} {O : Nat → Nat → Int} (h : mx_T lv kd mn T n cb S V O) : S 0 n = -1 ∨ 0 ≤ S 0 n := by
  by_cases c : 0 < n
  · exact mx_C1 (h.2 0 n c (Nat.le_refl _))
  · exact Or.inl (h.1 0 n (by omega))
theorem i_vc_reads {k : Nat} {u : SX} {v : SY} (I : i_Rel k u v) (hk : k + 4 ≤ 2048) : wpX_reads (fun r u' => wpY_reads (fun r' v' => r' = r ∧ i_Rel (k + 4) u' v') v) u := by
  obtain ⟨lv, kd, mn, T, n, K, L, M, K2, L2, M2, X, X2, wa, wb, wc, s, o, v, m, R, s2, v2, o2, fr, tu, kf, kt, pn, hn, hG, hG2, hX, hX2, rfl, rfl⟩ := I
  refine mz_rtx hG rfl (by omega) hX (fun s' o' v' hT hd r hr => ?_)
  have c1 := mr_c1 hT
  rcases hr with ⟨rfl, hS⟩ | ⟨rfl, hS⟩
  · refine ⟨rfl, my_rtx (m := m) hG2 hn hX2 (fun R' t' w' p' hR hT' r' hr' => ?_)⟩
    have e := (mw_eq hG.1 hT hT' (i := 0) (j := n) (Nat.le_refl _)).1
    exact br_t ((my_lt0 hr').mpr (by omega)) ⟨rfl, mr_mk hn hG hG2 hX hX2⟩
  · refine ⟨rfl, my_rtx (m := m) hG2 hn hX2 (fun R' t' w' p' hR hT' r' hr' => ?_)⟩
    have e := (mw_eq hG.1 hT hT' (i := 0) (j := n) (Nat.le_refl _)).1
    exact my_if (my_lt0 hr') (fun c => by omega) (fun c => ⟨rfl, mr_mk hn hG hG2 hX hX2⟩)
theorem i_vc_strength {k : Nat} {u : SX} {v : SY} (I : i_Rel k u v) (hk : k + 4 ≤ 2048) : wpX_strength (fun r u' => wpY_strength (fun r' v' => r' = r ∧ i_Rel (k + 4) u' v') v) u := by
  obtain ⟨lv, kd, mn, T, n, K, L, M, K2, L2, M2, X, X2, wa, wb, wc, s, o, v, m, R, s2, v2, o2, fr, tu, kf, kt, pn, hn, hG, hG2, hX, hX2, rfl, rfl⟩ := I
  refine mz_rtx hG rfl (by omega) hX (fun s' o' v' hT hd r hr => ?_)
  have c1 := mr_c1 hT
  rcases hr with ⟨rfl, hS⟩ | ⟨rfl, hS⟩
  · refine br_t rfl (my_rtx (m := m) hG2 hn hX2 (fun R' t' w' p' hR hT' r' hr' => ?_))
    have e := (mw_eq hG.1 hT hT' (i := 0) (j := n) (Nat.le_refl _)).1
    exact my_if (my_le0 hr') (fun c => by omega) (fun c => ⟨rfl, mr_mk hn hG hG2 hX hX2⟩)
  · refine br_f (by decide) ⟨vp_in_nI (by omega) (by decide), my_rtx (m := m) hG2 hn hX2 (fun R' t' w' p' hR hT' r' hr' => ?_)⟩
    have e := (mw_eq hG.1 hT hT' (i := 0) (j := n) (Nat.le_refl _)).1
    have sd := mx_Sd hd (Nat.zero_le n) (by omega)
    have e0 : 17 * 0 + n = n := by omega
    rw [e0] at sd
    refine br_t ((my_le0 hr').mpr (by omega)) ⟨?_, mr_mk hn hG hG2 hX hX2⟩
    rw [nI_clamp (by omega), ← Int32.toInt_inj, hr', sd, e]
theorem i_vc_value {k : Nat} {u : SX} {v : SY} (I : i_Rel k u v) (hk : k + 4 ≤ 2048) : wpX_value (fun r u' => wpY_value (fun r' v' => r' = r ∧ i_Rel (k + 4) u' v') v) u := by
  obtain ⟨lv, kd, mn, T, n, K, L, M, K2, L2, M2, X, X2, wa, wb, wc, s, o, v, m, R, s2, v2, o2, fr, tu, kf, kt, pn, hn, hG, hG2, hX, hX2, rfl, rfl⟩ := I
  refine mz_rtx hG rfl (by omega) hX (fun s' o' v' hT hd r hr => ?_)
  have c1 := mr_c1 hT
  rcases hr with ⟨rfl, hS⟩ | ⟨rfl, hS⟩
  · refine br_t rfl (my_rtx (m := m) hG2 hn hX2 (fun R' t' w' p' hR hT' r' hr' => ?_))
    have e := (mw_eq hG.1 hT hT' (i := 0) (j := n) (Nat.le_refl _)).1
    exact my_if (my_le0 hr') (fun c => by omega) (fun c => ⟨rfl, mr_mk hn hG hG2 hX hX2⟩)
  · refine br_f (by decide) ⟨vp_in_nI (by omega) (by decide), my_rtx (m := m) hG2 hn hX2 (fun R' t' w' p' hR hT' r' hr' => ?_)⟩
    have e := mw_eq hG.1 hT hT' (i := 0) (j := n) (Nat.le_refl _)
    have e0 : 17 * 0 + n = n := by omega
    have ev : w' (17 * 0 + n) = v' (17 * 0 + n) := (e.2 (by omega)).1
    rw [e0] at ev
    refine br_t ((my_le0 hr').mpr (by omega)) ⟨vp_in_nI (by omega) (by decide), ?_, mr_mk hn hG hG2 hX hX2⟩
    rw [nI_clamp (by omega)]
    exact ev
theorem i_vc_root {k : Nat} {u : SX} {v : SY} (I : i_Rel k u v) (hk : k + 4 ≤ 2048) : wpX_root (fun r u' => wpY_root (fun r' v' => r' = r ∧ i_Rel (k + 4) u' v') v) u := by
  obtain ⟨lv, kd, mn, T, n, K, L, M, K2, L2, M2, X, X2, wa, wb, wc, s, o, v, m, R, s2, v2, o2, fr, tu, kf, kt, pn, hn, hG, hG2, hX, hX2, rfl, rfl⟩ := I
  refine mz_rtx hG rfl (by omega) hX (fun s' o' v' hT hd r hr => ?_)
  have c1 := mr_c1 hT
  rcases hr with ⟨rfl, hS⟩ | ⟨rfl, hS⟩
  · refine br_t rfl (my_rtx (m := m) hG2 hn hX2 (fun R' t' w' p' hR hT' r' hr' => ?_))
    have e := (mw_eq hG.1 hT hT' (i := 0) (j := n) (Nat.le_refl _)).1
    exact my_if (my_le0 hr') (fun c => by omega) (fun c => ⟨rfl, mr_mk hn hG hG2 hX hX2⟩)
  · have h0 : 0 ≤ mx_S s' 0 n := by omega
    have np := mx_ps hT h0
    obtain ⟨a, hx, hy⟩ := mw_root (wa := wa) (wb := wb) (wc := wc) (K := K) (L := L) (M := M) (X2 := X) hG.1 hT (by omega) n 0 (by omega) (by omega) h0
    refine br_f (by decide) ⟨n + 1, hx _ (my_rtx (m := m) hG2 hn hX2 (fun R' t' w' p' hR hT' r' hr' => ?_))⟩
    have e := (mw_eq hG.1 hT hT' (i := 0) (j := n) (Nat.le_refl _)).1
    exact br_t ((my_le0 hr').mpr (by omega)) ⟨n + 1, hy _ _ _ _ _ _ _ _ _ _ _ _ _ _ hT' _ ⟨rfl, mr_mk hn hG hG2 hX hX2⟩⟩
theorem i_vc_depth {k : Nat} {u : SX} {v : SY} (I : i_Rel k u v) (hk : k + 4 ≤ 2048) (v1 : Int32) : wpX_depth (fun r u' => wpY_depth (fun r' v' => r' = r ∧ i_Rel (k + 4) u' v') v v1) u v1 := by
  obtain ⟨lv, kd, mn, T, n, K, L, M, K2, L2, M2, X, X2, wa, wb, wc, s, o, v, m, R, s2, v2, o2, fr, tu, kf, kt, pn, hn, hG, hG2, hX, hX2, rfl, rfl⟩ := I
  have same := mr_mk (k := k + 4) (wa := wa) (wb := wb) (wc := wc) (s := s) (o := o) (v := v) (m := m) (R := R) (s2 := s2) (v2 := v2) (o2 := o2) (fr := fr) (tu := tu) (kf := kf) (kt := kt) (pn := pn) hn hG hG2 hX hX2
  by_cases c0 : v1 < 0
  · exact br_t c0 (br_t c0 ⟨rfl, same⟩)
  · obtain ⟨p, hp, rfl⟩ := nI_of c0
    by_cases cp : p < n
    · have x1 : ¬ nI n ≤ nI p := nI_ge cp (by omega)
      refine br_f c0 (br_f x1 (mz_rtx hG rfl (by omega) hX (fun s' o' v' hT hd r hr => ?_)))
      have c1 := mr_c1 hT
      rcases hr with ⟨rfl, hS⟩ | ⟨rfl, hS⟩
      · refine br_t rfl (br_f c0 (br_f x1 (my_rtx (m := m) hG2 hn hX2 (fun R' t' w' p' hR hT' r' hr' => ?_))))
        have e := (mw_eq hG.1 hT hT' (i := 0) (j := n) (Nat.le_refl _)).1
        exact my_if (my_le0 hr') (fun c => by omega) (fun c => ⟨rfl, mr_mk hn hG hG2 hX hX2⟩)
      · have h0 : 0 ≤ mx_S s' 0 n := by omega
        obtain ⟨d, f, t, q, hK⟩ := mx_Ke hT (by decide) (x := p) n 0 n 0 (by omega) (Nat.le_refl _) h0 (Nat.zero_le _) cp
        have kf' := mx_Kf hT (by decide) d 0 n 0 f t q (Nat.le_refl _) h0 (Nat.zero_le _) cp h0 (Int.le_refl _) hK
        refine br_f (by decide) (mw_wd (wa := wa) (wb := wb) (wc := wc) hG hT (by omega) hX h0 cp hK (fun w9 hw9 => br_f c0 (br_f x1 (my_rtx (m := m) hG2 hn hX2 (fun R' t' w' p' hR hT' r' hr' => ?_)))))
        have e := (mw_eq hG.1 hT hT' (i := 0) (j := n) (Nat.le_refl _)).1
        have hK' := mw_eqK hG.1 hT hT' (by decide) (by decide) (Nat.le_refl _) (by omega) (Nat.zero_le _) cp hK
        refine br_t ((my_le0 hr').mpr (by omega)) ⟨d + 1, mw_dY hT' (by omega) d 0 0 n 0 f t q (Nat.le_refl _) (by omega) (Nat.zero_le _) cp hK' (by omega) ?_⟩
        rw [Nat.zero_add]
        exact ⟨rfl, mr_mk hn hG hG2 hX hX2⟩
    · have x1 : nI n ≤ nI p := nI_le (by omega) hp
      exact br_f c0 (br_t x1 (br_f c0 (br_t x1 ⟨rfl, same⟩)))
theorem i_vc_spare {k : Nat} {u : SX} {v : SY} (I : i_Rel k u v) (hk : k + 4 ≤ 2048) : wpX_spare (fun r u' => wpY_spare (fun r' v' => r' = r ∧ i_Rel (k + 4) u' v') v) u := by
  obtain ⟨lv, kd, mn, T, n, K, L, M, K2, L2, M2, X, X2, wa, wb, wc, s, o, v, m, R, s2, v2, o2, fr, tu, kf, kt, pn, hn, hG, hG2, hX, hX2, rfl, rfl⟩ := I
  refine mz_rtx hG rfl (by omega) hX (fun s' o' v' hT hd r hr => ?_)
  have c1 := mr_c1 hT
  rcases hr with ⟨rfl, hS⟩ | ⟨rfl, hS⟩
  · refine br_t rfl (my_rtx (m := m) hG2 hn hX2 (fun R' t' w' p' hR hT' r' hr' => ?_))
    have e := (mw_eq hG.1 hT hT' (i := 0) (j := n) (Nat.le_refl _)).1
    exact my_if (my_le0 hr') (fun c => by omega) (fun c => ⟨rfl, mr_mk hn hG hG2 hX hX2⟩)
  · have h0 : 0 ≤ mx_S s' 0 n := by omega
    have HQ : ∀ p, p < n → T p = 18 → ∃ d g nd, mx_K lv kd T (mx_O o') p d 0 n 0 p (g + 1) nd ∧ p + 1 < g ∧ g < n ∧ T g = 19 ∧ 0 ≤ mx_S s' (p + 1) g ∧
        ((T p = 18 ∧ ∃ d g nd, mx_K lv kd T (mx_O o') p d 0 n 0 p (g + 1) nd ∧ nd ≤ mx_S s' (p + 1) g) ↔ nd ≤ mx_S s' (p + 1) g) := by
      intro p hp h18
      obtain ⟨d, f, t, q, hK⟩ := mx_Ke hT (by decide) (x := p) n 0 n 0 (by omega) (Nat.le_refl _) h0 (Nat.zero_le _) hp
      obtain ⟨w1, w2, w3, w4, w5, w6, w7, w8, w9⟩ := mx_Kf hT (by decide) d 0 n 0 f t q (Nat.le_refl _) h0 (Nat.zero_le _) hp h0 (Int.le_refl _) hK
      obtain ⟨y1, hB, y3⟩ := mx_fb hT (by decide) w2 w7 w3 w4 h18 w8
      obtain ⟨g, rfl⟩ : ∃ g, t = g + 1 := ⟨t - 1, by omega⟩
      subst y1
      obtain ⟨b1, b2, b3⟩ := hB
      rw [Nat.add_sub_cancel] at b2 b3 y3
      refine ⟨d, g, q, hK, y3, by omega, b2, b3, fun ⟨_, d', g', nd', hK', hle⟩ => ?_, fun hle => ⟨h18, d, g, q, hK, hle⟩⟩
      obtain ⟨e1, e2, e3⟩ := mw_Ku _ _ _ _ _ _ _ _ _ _ _ hK hK'
      have e4 : g' = g := by omega
      rw [e3, e4] at hle
      exact hle
    refine br_f (by decide) ⟨n + 1, mv_18 (Q := fun p => T p = 18 ∧ ∃ d g nd, mx_K lv kd T (mx_O o') p d 0 n 0 p (g + 1) nd ∧ nd ≤ mx_S s' (p + 1) g) hG hT hn hX h0 (fun p hp h18 => ?_) (fun p _ hne z => hne z.1) (fun wa' wb' wc' => ?_) n 0 wa wb wc (by omega)⟩
    · obtain ⟨d, g, nd, k1, k2, k3, k4, k5, k6⟩ := HQ p hp h18
      exact ⟨d, g, nd, k1, k2, k3, k6⟩
    · refine my_rtx (m := m) hG2 hn hX2 (fun R' t' w' p' hR hT' r' hr' => ?_)
      have es := fun (i j : Nat) (hj : j ≤ n) => (mw_eq hG.1 hT hT' (i := i) (j := j) hj).1
      have e := es 0 n (Nat.le_refl _)
      refine br_t ((my_le0 hr').mpr (by omega)) (mf_fs hT' (by omega) (by omega) (fun fr' tu' pn' hfr => ⟨n + 1, mf_16 hn (fun kf' kt' hkt => ⟨n + 1, ?_⟩) n 0 kf kt (by omega) (fun y hy => absurd hy (by omega))⟩))
      refine mf_58 hG2 hn hX2 hT' (by omega) (fun x f t x1 x2 x3 hN => ?_) (Q := fun p => T p = 18 ∧ ∃ d g nd, mx_K lv kd T (mx_O o') p d 0 n 0 p (g + 1) nd ∧ nd ≤ mx_S s' (p + 1) g) (fun p hp h18 => ?_) (fun p _ hne z => hne z.1) (fun m' R9 s9 v9 o9 fr9 tu9 pn9 => ⟨rfl, mr_mk hn hG hG2 hX hX2⟩) n 0 _ _ _ _ _ _ _ _ (by omega)
      · rw [(hkt x x1).1, (hkt x x1).2]
        exact hfr x f t x1 x2 x3 hN
      · obtain ⟨d, g, nd, k1, k2, k3, k4, k5, k6⟩ := HQ p hp h18
        refine ⟨d, g, nd, mw_eqK hG.1 hT hT' (by decide) (by decide) (Nat.le_refl _) (by omega) (Nat.zero_le _) hp k1, k2, k3, k4, ?_, ?_⟩
        · rw [es (p + 1) g (by omega)]
          exact k5
        · rw [es (p + 1) g (by omega)]
          exact k6
theorem i_vc_endings {k : Nat} {u : SX} {v : SY} (I : i_Rel k u v) (hk : k + 4 ≤ 2048) : wpX_endings (fun r u' => wpY_endings (fun r' v' => r' = r ∧ i_Rel (k + 4) u' v') v) u := by
  obtain ⟨lv, kd, mn, T, n, K, L, M, K2, L2, M2, X, X2, wa, wb, wc, s, o, v, m, R, s2, v2, o2, fr, tu, kf, kt, pn, hn, hG, hG2, hX, hX2, rfl, rfl⟩ := I
  refine ⟨20 + 1, me_X hG hn hX.2 (fun X' s' o' v' hX' => ⟨20 + 1, me_Y hG2 hn hX2 (fun m' R' t' w' p' => ⟨rfl, mr_mk hn hG hG2 ⟨hX', hX.2⟩ hX2⟩) 20 0 m R s2 v2 o2 (by decide)⟩) 20 0 X s o v (by decide) hX.1⟩
