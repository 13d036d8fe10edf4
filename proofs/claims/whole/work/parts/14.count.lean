/-! spare and endings: both sides count the same -/
noncomputable def mx_cn (Q : Nat → Prop) : Nat → Nat
  | 0 => 0
  | n + 1 => mx_cn Q n + @ite Nat (Q n) (Classical.propDecidable (Q n)) 1 0
theorem mx_cn1 {Q : Nat → Prop} {n : Nat} (h : Q n) : mx_cn Q (n + 1) = mx_cn Q n + 1 := by
  show mx_cn Q n + @ite Nat (Q n) (Classical.propDecidable (Q n)) 1 0 = _
  rw [if_pos h]
theorem mx_cn0 {Q : Nat → Prop} {n : Nat} (h : ¬ Q n) : mx_cn Q (n + 1) = mx_cn Q n := by
  show mx_cn Q n + @ite Nat (Q n) (Classical.propDecidable (Q n)) 1 0 = _
  rw [if_neg h]
  rfl
theorem mx_os {p g i : Nat} (hpg : p < g) (h1 : i ≠ p) (h2 : i ≠ g) : mx_o p g (i + 1) = mx_o p g i + 1 := by
  unfold mx_o
  (repeat' split) <;> omega
theorem mx_osp {p g i : Nat} (hpg : p < g) (h : i = p ∨ i = g) : mx_o p g (i + 1) = mx_o p g i := by
  unfold mx_o
  (repeat' split) <;> omega
theorem mx_ol {p g n x : Nat} (hpg : p < g) (hg : g < n) (hx : x < n) (h1 : x ≠ p) (h2 : x ≠ g) : mx_o p g x < n - 2 := by
  unfold mx_o
  (repeat' split) <;> omega
section
variable {z : Int32} {K L M X kf kt : Nat → Int32} {lv kd : Nat → Nat} {mn : Nat → Int32} {T : Nat → Nat} {n p g : Nat} {S : Nat → Nat → Int} {V : Nat → Nat → Int32} {O : Nat → Nat → Int}
theorem mf_13 {s v o fr tu pn : Nat → Int32} (hG : mx_G lv kd mn K L M) (hn : n ≤ 15) (hA : mx_A X T n) (hpg : p + 1 < g) (hg : g < n) (h18 : T p = 18) (h19 : T g = 19) (h : mx_T lv kd mn T n (-2) S V O) (h0 : 0 ≤ S 0 n) (hi : 0 ≤ S (p + 1) g)
    {d0 : Nat} {nd : Int} (hK : mx_K lv kd T O p d0 0 n 0 p (g + 1) nd) (HK : ∀ x f t, x < n → 10 ≤ T x → T x < 18 → mx_N lv kd T O x 0 n f t → kf x = nI f ∧ kt x = nI t) {post : Int32 → SY → Prop}
    (H1 : nd ≤ S (p + 1) g → ∀ m R s v o fr tu pn, post 1 ((nI n), m, K, L, M, X, R, s, v, o, fr, tu, kf, kt, pn)) (H0 : ¬ nd ≤ S (p + 1) g → ∀ m R s v o fr tu pn, post 0 ((nI n), m, K, L, M, X, R, s, v, o, fr, tu, kf, kt, pn)) :
    ∀ d i R, i + d = n → (∀ y, y < mx_o p g i → R y = nI (mx_q T p g y)) → wY_isSpare_13 post (nI p) (nI g) (nI n) (d + 1) (nI i) (nI (mx_o p g i)) K L M X R s v o fr tu kf kt pn := by
  have hk := hG.1
  have hQ : mx_Q T (mx_q T p g) p g n := mx_qQ hpg hg
  intro d
  induction d with
  | zero =>
    intro i R hi' hR
    have e : i = n := by omega
    subst e
    have om : mx_o p g i = i - 2 := mx_o3 (by omega) (by omega)
    rw [om] at hR
    rw [om]
    refine br_t (nI_le (by omega) (by omega)) (my_rall hG (by omega) ⟨hR, mx_q20 hA.2⟩ (fun s' v' o' hT' r hr => ?_))
    have sp := mx_sp hk h hT' (by decide) (by decide) hQ h18 h19 hi h0 hK
    refine my_if (my_le0 hr) (fun c => mf_fs hT' (by omega) c (fun fr' tu' pn' hfr => ⟨i + 1, ?_⟩)) (fun c => H0 (fun hle => c (sp.mp hle).1) _ _ _ _ _ _ _ _)
    refine mf_77 hn hA (by omega) hg (C := fun x => ∀ f t f' t', mx_N lv kd T O x 0 i f t → mx_N lv kd (mx_q T p g) (mx_O o') (mx_o p g x) 0 (i - 2) f' t' → f' = mx_o p g f ∧ t' = mx_o p g t) (fun x x1 x2 x3 => ?_) (fun hall => H1 (sp.mpr ⟨c, fun x f t f' t' a b c' hN hN' => hall x a b c' f t f' t' hN hN'⟩) _ _ _ _ _ _ _ _) (fun hno => H0 (fun hle => hno (fun x a b c' f t f' t' hN hN' => (sp.mp hle).2 x f t f' t' a b c' hN hN')) _ _ _ _ _ _ _ _) i 0 (by omega) (fun y hy => absurd hy (by omega))
    have xp : x ≠ p := by
      intro e
      rw [e] at x3
      omega
    have xg : x ≠ g := by
      intro e
      rw [e] at x3
      omega
    have lt := mx_ol (by omega : p < g) hg x1 xp xg
    have tx := mx_Qo hQ x1 xp xg
    obtain ⟨da, F, G, qa, Ka⟩ := mx_Ke h (by decide) (x := x) i 0 i 0 (by omega) (Nat.le_refl _) h0 (Nat.zero_le _) x1
    obtain ⟨db, f', t', qb, Kb⟩ := mx_Ke hT' (by decide) (x := mx_o p g x) (i - 2) 0 (i - 2) 0 (by omega) (Nat.le_refl _) c (Nat.zero_le _) lt
    have fa := mx_Kf h (by decide) da 0 i 0 F G qa (Nat.le_refl _) h0 (Nat.zero_le _) x1 h0 (Int.le_refl _) Ka
    have fb := mx_Kf hT' (by decide) db 0 (i - 2) 0 f' t' qb (Nat.le_refl _) c (Nat.zero_le _) lt c (Int.le_refl _) Kb
    obtain ⟨w1, w2⟩ := HK x F G x1 x2 x3 ⟨da, 0, qa, Ka⟩
    obtain ⟨w3, w4⟩ := hfr (mx_o p g x) f' t' lt (by rw [tx]; exact x2) (by rw [tx]; exact x3) ⟨db, 0, qb, Kb⟩
    refine ⟨F, G, f', t', w1, w2, w3, w4, by omega, by omega, by omega, by omega, fun hC => hC F G f' t' ⟨da, 0, qa, Ka⟩ ⟨db, 0, qb, Kb⟩, fun ⟨e1, e2⟩ f t f2 t2 hN hN' => ?_⟩
    obtain ⟨y1, y2⟩ := mx_Nu da 0 i 0 F G qa f t Ka hN
    obtain ⟨y3, y4⟩ := mx_Nu db 0 (i - 2) 0 f' t' qb f2 t2 Kb hN'
    rw [y1, y2, y3, y4]
    exact ⟨e1, e2⟩
  | succ d ih =>
    intro i R hi' hR
    have hr : X (nI i).toNatClampNeg = nI (T i) := by rw [nI_clamp (by omega)]; exact hA.1 i (by omega)
    have ob : mx_o p g i ≤ i := Nat.le_trans (Nat.sub_le _ _) (Nat.sub_le _ _)
    refine br_f (nI_ge (by omega) (by omega)) (pk_eq i p (fun c => nm_r (nI_1 i) ?_) (fun c => pk_eq i g (fun c2 => nm_r (nI_1 i) ?_) (fun c2 => ⟨vp_in_nI (by omega) (by omega), vp_in_nI (by omega) (by omega), nm_r (e' := upd R (mx_o p g i) (nI (T i))) (by rw [nI_clamp (n := mx_o p g i) (by omega), hr]) (nm_r (nI_1 (mx_o p g i)) (nm_r (nI_1 i) ?_))⟩)))
    · have e := mx_osp (p := p) (g := g) (i := i) (by omega) (Or.inl c)
      have go := ih (i + 1) R (by omega) (by rw [e]; exact hR)
      rw [e] at go
      exact go
    · have e := mx_osp (p := p) (g := g) (i := i) (by omega) (Or.inr c2)
      have go := ih (i + 1) R (by omega) (by rw [e]; exact hR)
      rw [e] at go
      exact go
    · have e := mx_os (p := p) (g := g) (i := i) (by omega) c c2
      have go := ih (i + 1) (upd R (mx_o p g i) (nI (T i))) (by omega) (fun y hy => ?_)
      · rw [e] at go
        exact go
      · rw [e] at hy
        by_cases ey : y = mx_o p g i
        · rw [ey, pk_us, mx_Qo hQ (by omega) c c2]
        · rw [pk_un ey]
          exact hR y (by omega)
theorem mf_isp {m : Int32} {R s v o fr tu pn : Nat → Int32} (hG : mx_G lv kd mn K L M) (hn : n ≤ 15) (hA : mx_A X T n) (hpg : p + 1 < g) (hg : g < n) (h18 : T p = 18) (h19 : T g = 19) (h : mx_T lv kd mn T n (-2) S V O) (h0 : 0 ≤ S 0 n) (hi : 0 ≤ S (p + 1) g)
    {d0 : Nat} {nd : Int} (hK : mx_K lv kd T O p d0 0 n 0 p (g + 1) nd) (HK : ∀ x f t, x < n → 10 ≤ T x → T x < 18 → mx_N lv kd T O x 0 n f t → kf x = nI f ∧ kt x = nI t) {post : Int32 → SY → Prop}
    (H1 : nd ≤ S (p + 1) g → ∀ m R s v o fr tu pn, post 1 ((nI n), m, K, L, M, X, R, s, v, o, fr, tu, kf, kt, pn)) (H0 : ¬ nd ≤ S (p + 1) g → ∀ m R s v o fr tu pn, post 0 ((nI n), m, K, L, M, X, R, s, v, o, fr, tu, kf, kt, pn)) : wpY_isSpare post ((nI n), m, K, L, M, X, R, s, v, o, fr, tu, kf, kt, pn) (nI p) := by
  have hD := mx_dk h g (p + 1) g (by omega) (by omega) hi
  have o0 : mx_o p g 0 = 0 := mx_o1 (by omega) (by omega)
  refine mf_pt hn hA hg (by omega) h18 h19 hD ⟨n + 1, ?_⟩
  have go := mf_13 (s := s) (v := v) (o := o) (fr := fr) (tu := tu) (pn := pn) hG hn hA hpg hg h18 h19 h h0 hi hK HK H1 H0 n 0 R (by omega) (fun y hy => by omega)
  rw [o0] at go
  exact go
theorem mf_58 (hG : mx_G lv kd mn K L M) (hn : n ≤ 15) (hA : mx_A X T n) (h : mx_T lv kd mn T n (-2) S V O) (h0 : 0 ≤ S 0 n)
    (HK : ∀ x f t, x < n → 10 ≤ T x → T x < 18 → mx_N lv kd T O x 0 n f t → kf x = nI f ∧ kt x = nI t) {post : Int32 → SY → Prop} {Q : Nat → Prop}
    (HQ : ∀ p, p < n → T p = 18 → ∃ d g nd, mx_K lv kd T O p d 0 n 0 p (g + 1) nd ∧ p + 1 < g ∧ g < n ∧ T g = 19 ∧ 0 ≤ S (p + 1) g ∧ (Q p ↔ nd ≤ S (p + 1) g)) (HQ0 : ∀ p, p < n → T p ≠ 18 → ¬ Q p)
    (Hf : ∀ m R s v o fr tu pn, post (nI (mx_cn Q n)) ((nI n), m, K, L, M, X, R, s, v, o, fr, tu, kf, kt, pn)) :
    ∀ d i m R s v o fr tu pn, i + d = n → wY_spare_58 post (d + 1) (nI (mx_cn Q i)) (nI i) (nI n) m K L M X R s v o fr tu kf kt pn := by
  intro d
  induction d with
  | zero =>
    intro i m R s v o fr tu pn hi
    have e : i = n := by omega
    subst e
    exact br_t (nI_le (by omega) (by omega)) (Hf m R s v o fr tu pn)
  | succ d ih =>
    intro i m R s v o fr tu pn hi
    have hr : X (nI i).toNatClampNeg = nI (T i) := by rw [nI_clamp (by omega)]; exact hA.1 i (by omega)
    have hT := hA.2 i
    refine br_f (nI_ge (by omega) (by omega)) ⟨vp_in_nI (by omega) (by omega), my_if (d := T i = 18) (by rw [hr]; exact nI_eq (b := 18) (by omega) (by decide)) (fun c => ?_) (fun c => nm_r (nI_1 i) ?_)⟩
    · obtain ⟨d1, g, nd, k1, k2, k3, k4, k5, k6⟩ := HQ i (by omega) c
      refine mf_isp hG hn hA k2 k3 c k4 h h0 k5 k1 HK (fun hle m R s v o fr tu pn => br_f (by decide) (nm_r (nI_1 _) (nm_r (nI_1 i) ?_))) (fun hle m R s v o fr tu pn => br_t rfl (nm_r (nI_1 i) ?_))
      · rw [← mx_cn1 (k6.mpr hle)]
        exact ih (i + 1) m R s v o fr tu pn (by omega)
      · rw [← mx_cn0 (fun z => hle (k6.mp z))]
        exact ih (i + 1) m R s v o fr tu pn (by omega)
    · rw [← mx_cn0 (HQ0 i (by omega) c)]
      exact ih (i + 1) m R s v o fr tu pn (by omega)
end
section
variable {m : Int32} {K L M X R s v o fr tu pn : Nat → Int32} {lv kd : Nat → Nat} {mn : Nat → Int32} {T : Nat → Nat} {n : Nat}
theorem mf_16 (hn : n ≤ 15) {post : Int32 → SY → Prop}
    (H : ∀ kf kt, (∀ y, y < n → kf y = fr y ∧ kt y = tu y) → ∃ n58, wY_spare_58 post n58 0 0 (nI n) m K L M X R s v o fr tu kf kt pn) :
    ∀ d i kf kt, i + d = n → (∀ y, y < i → kf y = fr y ∧ kt y = tu y) → wY_spare_16 post (nI n) m (d + 1) (nI i) K L M X R s v o fr tu kf kt pn := by
  intro d
  induction d with
  | zero =>
    intro i kf kt hi hb
    have e : i = n := by omega
    subst e
    exact br_t (nI_le (by omega) (by omega)) (H kf kt hb)
  | succ d ih =>
    intro i kf kt hi hb
    have i16 : vp_in (nI i) 16 := vp_in_nI (by omega) (by omega)
    have ci : (nI i).toNatClampNeg = i := nI_clamp (by omega)
    refine br_f (nI_ge (by omega) (by omega)) ⟨i16, i16, nm_r (e' := upd kf i (fr i)) (by rw [ci]) ⟨i16, i16, nm_r (e' := upd kt i (tu i)) (by rw [ci]) (nm_r (nI_1 i) (ih (i + 1) _ _ (by omega) (fun y hy => ?_)))⟩⟩
    by_cases e : y = i
    · rw [e]
      exact ⟨pk_us, pk_us⟩
    · rw [pk_un e, pk_un e]
      exact hb y (by omega)
end
section
variable {K L M X s o v : Nat → Int32} {lv kd : Nat → Nat} {mn : Nat → Int32} {T : Nat → Nat} {n : Nat}
theorem mv_isp {wa wb wc : Int32} (hG : mx_G lv kd mn K L M) (h : mx_T lv kd mn T n (-1) (mx_S s) (mx_V v) (mx_O o)) (hn : n ≤ 15) (hA : mx_A X T n) (h0 : 0 ≤ mx_S s 0 n) {p g d : Nat} {nd : Int} (hK : mx_K lv kd T (mx_O o) p d 0 n 0 p (g + 1) nd) (hpg : p + 1 < g) (hg : g < n) {post : Int32 → SX → Prop}
    (H1 : nd ≤ mx_S s (p + 1) g → ∀ wa wb wc, post 1 ((nI n), wa, wb, wc, K, L, M, X, s, o, v)) (H0 : ¬ nd ≤ mx_S s (p + 1) g → ∀ wa wb wc, post 0 ((nI n), wa, wb, wc, K, L, M, X, s, o, v)) : wpX_isSpare post ((nI n), wa, wb, wc, K, L, M, X, s, o, v) (nI p) := by
  have e3 : ((nI p + 1) * (17 : Int32) + nI (g + 1)) - 1 = nI (17 * (p + 1) + g) := by
    rw [mz_17b p (g + 1)]
    exact (pk_sub (b := 1) (by omega)).trans (congrArg nI (by omega))
  refine mw_wd (wa := wa) (wb := wb) (wc := wc) hG h (by omega) hA h0 (by omega) hK (fun w' hw => ⟨by rw [e3]; exact vp_in_nI (by omega) (by omega), my_if (d := mx_S s (p + 1) g < nd) ?_ (fun c => H0 (by omega) _ _ _) (fun c => H1 (by omega) _ _ _)⟩)
  rw [e3, nI_clamp (by omega), Int32.lt_iff_toInt_lt, hw, mx_S1 hpg]
theorem mv_18 (hG : mx_G lv kd mn K L M) (h : mx_T lv kd mn T n (-1) (mx_S s) (mx_V v) (mx_O o)) (hn : n ≤ 15) (hA : mx_A X T n) (h0 : 0 ≤ mx_S s 0 n) {post : Int32 → SX → Prop} {Q : Nat → Prop}
    (HQ : ∀ p, p < n → T p = 18 → ∃ d g nd, mx_K lv kd T (mx_O o) p d 0 n 0 p (g + 1) nd ∧ p + 1 < g ∧ g < n ∧ (Q p ↔ nd ≤ mx_S s (p + 1) g)) (HQ0 : ∀ p, p < n → T p ≠ 18 → ¬ Q p)
    (Hf : ∀ wa wb wc, post (nI (mx_cn Q n)) ((nI n), wa, wb, wc, K, L, M, X, s, o, v)) :
    ∀ d i wa wb wc, i + d = n → wX_spare_18 post (d + 1) (nI (mx_cn Q i)) (nI i) (nI n) wa wb wc K L M X s o v := by
  intro d
  induction d with
  | zero =>
    intro i wa wb wc hi
    have e : i = n := by omega
    subst e
    exact br_t (nI_le (by omega) (by omega)) (Hf wa wb wc)
  | succ d ih =>
    intro i wa wb wc hi
    have hr : X (nI i).toNatClampNeg = nI (T i) := by rw [nI_clamp (by omega)]; exact hA.1 i (by omega)
    have hT := hA.2 i
    refine br_f (nI_ge (by omega) (by omega)) ⟨vp_in_nI (by omega) (by omega), my_if (d := T i = 18) (by rw [hr]; exact nI_eq (b := 18) (by omega) (by decide)) (fun c => ?_) (fun c => nm_r (nI_1 i) ?_)⟩
    · obtain ⟨d1, g, nd, k1, k2, k3, k4⟩ := HQ i (by omega) c
      refine mv_isp hG h hn hA h0 k1 k2 k3 (fun hle wa wb wc => br_f (by decide) (nm_r (nI_1 _) (nm_r (nI_1 i) ?_))) (fun hle wa wb wc => br_t rfl (nm_r (nI_1 i) ?_))
      · rw [← mx_cn1 (k4.mpr hle)]
        exact ih (i + 1) wa wb wc (by omega)
      · rw [← mx_cn0 (fun z => hle (k4.mp z))]
        exact ih (i + 1) wa wb wc (by omega)
    · rw [← mx_cn0 (HQ0 i (by omega) c)]
      exact ih (i + 1) wa wb wc (by omega)
end
/-! endings -/
def mx_at (T : Nat → Nat) (n t : Nat) (j : Nat) : Nat := if j = n then t else T j
theorem mx_atA {R : Nat → Int32} {T : Nat → Nat} {n t : Nat} (hA : ∀ j, j < n → R j = nI (T j)) (h20 : ∀ j, T j < 20) (ht : t < 20) : mx_A (upd R n (nI t)) (mx_at T n t) (n + 1) := by
  refine ⟨fun j hj => ?_, fun j => ?_⟩
  · unfold mx_at
    by_cases e : j = n
    · rw [if_pos e, e]
      exact pk_us
    · rw [if_neg e, pk_un e]
      exact hA j (by omega)
  · unfold mx_at
    split
    · exact ht
    · exact h20 j
def mx_en (lv kd : Nat → Nat) (mn : Nat → Int32) (T : Nat → Nat) (n t : Nat) : Prop :=
  ∃ cb S V O, mx_T lv kd mn (mx_at T n t) (n + 1) cb S V O ∧ 0 ≤ S 0 (n + 1)
theorem mx_enI {lv kd : Nat → Nat} {mn : Nat → Int32} {T : Nat → Nat} {n t : Nat} {cb : Int} {S : Nat → Nat → Int} {V : Nat → Nat → Int32} {O : Nat → Nat → Int} (hk : ∀ k, kd k < 5) (h : mx_T lv kd mn (mx_at T n t) (n + 1) cb S V O) :
    mx_en lv kd mn T n t ↔ 0 ≤ S 0 (n + 1) := by
  constructor
  · intro ⟨cb', S', V', O', h', h0⟩
    rw [← (mw_eq hk h h' (i := 0) (j := n + 1) (Nat.le_refl _)).1]
    exact h0
  · intro h0
    exact ⟨cb, S, V, O, h, h0⟩
section
variable {lv kd : Nat → Nat} {mn : Nat → Int32} {T : Nat → Nat} {n : Nat} {K L M : Nat → Int32}
theorem me_X {wa wb wc : Int32} (hG : mx_G lv kd mn K L M) (hn : n ≤ 15) (h20 : ∀ j, T j < 20) {post : Int32 → SX → Prop}
    (Hf : ∀ X s o v, (∀ j, j < n → X j = nI (T j)) → post (nI (mx_cn (mx_en lv kd mn T n) 20)) ((nI n), wa, wb, wc, K, L, M, X, s, o, v)) :
    ∀ d t X s o v, t + d = 20 → (∀ j, j < n → X j = nI (T j)) → wX_endings_4 post (d + 1) (nI (mx_cn (mx_en lv kd mn T n) t)) (nI t) (nI n) wa wb wc K L M X s o v := by
  intro d
  induction d with
  | zero =>
    intro t X s o v ht hX
    have e : t = 20 := by omega
    subst e
    exact br_t (nI_le (a := 20) (by omega) (by omega)) (Hf X s o v hX)
  | succ d ih =>
    intro t X s o v ht hX
    refine br_f (nI_ge (b := 20) (by omega) (by decide)) ⟨vp_in_nI (by omega) (by omega), nm_r (e' := upd X n (nI t)) (by rw [nI_clamp (by omega)]) (mz_rtx hG (nI_1 n) (by omega) (mx_atA hX h20 (by omega)) (fun s' o' v' hT hd r hr => ?_))⟩
    have hX' : ∀ j, j < n → upd X n (nI t) j = nI (T j) := fun j hj => by rw [pk_un (by omega)]; exact hX j hj
    have c1 := mx_C1 (hT.2 0 (n + 1) (by omega) (Nat.le_refl _))
    have en := mx_enI hG.1 hT
    rcases hr with ⟨r0, hS⟩ | ⟨r1, hS⟩
    · refine br_t r0 (nm_r (nI_1 t) ?_)
      rw [← mx_cn0 (fun z => by have := en.mp z; omega)]
      exact ih (t + 1) _ s' o' v' (by omega) hX'
    · refine br_f (by rw [r1]; decide) (nm_r (nI_1 _) (nm_r (nI_1 t) ?_))
      rw [← mx_cn1 (en.mpr (by omega))]
      exact ih (t + 1) _ s' o' v' (by omega) hX'
theorem me_Y {X fr tu kf kt pn : Nat → Int32} (hG : mx_G lv kd mn K L M) (hn : n ≤ 15) (hA : mx_A X T n) {post : Int32 → SY → Prop}
    (Hf : ∀ m R s v o, post (nI (mx_cn (mx_en lv kd mn T n) 20)) ((nI n), m, K, L, M, X, R, s, v, o, fr, tu, kf, kt, pn)) :
    ∀ d t m R s v o, t + d = 20 → wY_endings_4 post (d + 1) (nI (mx_cn (mx_en lv kd mn T n) t)) (nI t) (nI n) m K L M X R s v o fr tu kf kt pn := by
  intro d
  induction d with
  | zero =>
    intro t m R s v o ht
    have e : t = 20 := by omega
    subst e
    exact br_t (nI_le (a := 20) (by omega) (by omega)) (Hf m R s v o)
  | succ d ih =>
    intro t m R s v o ht
    refine br_f (nI_ge (b := 20) (by omega) (by decide)) (my_rtx hG hn hA (fun R' s' v' o' hR' hT' r' hr' => ⟨vp_in_nI (by omega) (by omega), nm_r (e' := upd R' n (nI t)) (by rw [nI_clamp (by omega)]) (nm_r (nI_1 n) (my_rall hG (by omega) (mx_atA hR'.1 hA.2 (by omega)) (fun s2 v2 o2 hT r hr => ?_)))⟩))
    have en := mx_enI hG.1 hT
    refine my_if (my_lt0 hr) (fun c => nm_r (nI_1 t) ?_) (fun c => nm_r (nI_1 _) (nm_r (nI_1 t) ?_))
    · rw [← mx_cn0 (fun z => by have := en.mp z; omega)]
      exact ih (t + 1) _ _ s2 v2 o2 (by omega)
    · rw [← mx_cn1 (en.mpr (by omega))]
      exact ih (t + 1) _ _ s2 v2 o2 (by omega)
end
