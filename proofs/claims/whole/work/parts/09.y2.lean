/-! The reference's insertion, and its walk keeps the four rules. -/
theorem yy_k17b {post : SY → Prop} {so ta de ke sw ev : Int32} {aa pa tr yl ys yv : Nat → Int32} {w : Nat → Nat} {A : Nat × (Nat → List Nat)} {p : List Nat} {l r m : Nat}
    (hk : ke = nI A.1) (hn : A.1 ≤ 12) (hd : de = nI p.length) (hp7 : p.length ≤ 7) (hp : ∀ y, y ∈ p → y < 7) (hsp : yk_sk p pa) (hl : l < 2 ^ 31) (hr : r ≤ A.1)
    (hlo : ∀ k, k < r → yk_ln w (A.2 k) ≤ l) (hT : yk_tb w A yl ys yv) (hq : ∀ k, k < A.1 → (A.2 k).length ≤ 7 ∧ (∀ y, y ∈ A.2 k → y < 7) ∧ yk_ln w (A.2 k) < 2 ^ 31 ∧ yk_lb (A.2 k).reverse p.reverse)
    (h : post (so, ta, de, nI (yk_up A.1), sw, ev, aa, pa, tr, upd (yk_s1 r m yl) r (nI l), upd (yk_s1 r m ys) r (nI p.length), yk_pl r p.length pa (yk_s7 r m yv))) :
    ∀ c, c ≤ r → ∀ f, c < f → wY_keep_17 post (nI l) f (nI r) (nI c - 1) so ta de ke sw ev aa pa tr (yk_s1 r m yl) (yk_s1 r m ys) (yk_s7 r m yv) := by
  intro c
  induction c with
  | zero =>
    intro _ f hf
    obtain ⟨f, rfl⟩ : ∃ g, f = g + 1 := ⟨f - 1, by omega⟩
    rw [wY_keep_17]
    dsimp only
    refine br_t (by decide) ?_
    rw [nI_clamp (show r < 2 ^ 31 by omega)]
    have i1 : vp_in (nI r) 13 := vp_in_nI (by omega) (by omega)
    have h62 := yy_keep_62 (yl := upd (yk_s1 r m yl) r (nI l)) (ys := upd (yk_s1 r m ys) r (nI p.length)) (yv := yk_s7 r m yv) (show r < 13 by omega) hp7 hd hk hn h p.length 0 (by omega) (p.length + 1) (by omega)
    rw [yk_pl_0] at h62
    exact ⟨i1, nm_e ⟨i1, nm_r (by rw [hd]) ⟨_, h62⟩⟩⟩
  | succ c ih =>
    intro hc f hf
    obtain ⟨f, rfl⟩ : ∃ g, f = g + 1 := ⟨f - 1, by omega⟩
    rw [wY_keep_17]
    dsimp only
    rw [nI_pred]
    refine br_f (nI_pos (by omega)) ?_
    obtain ⟨q1, q2, q3, q4⟩ := hq c (by omega)
    obtain ⟨t1, t2, t3⟩ := hT c (by omega)
    refine yy_cb (w := w) (p := p) (q := A.2 c) (by omega) hl q3 ((yk_s1_r yl (by omega)).trans t1) ((yk_s1_r ys (by omega)).trans t2) (yk_sk_ag (fun i hi => if_neg (by omega)) t3) hsp hp7 q1 hd hp q2 q4 ?_
    have := hlo c (by omega)
    rw [if_neg (by omega)]
    exact br_t rfl (nm_r (Int32.sub_eq_add_neg _ _).symm (ih (by omega) f (by omega)))

theorem yy_k17a {post : SY → Prop} {so ta de ke sw ev : Int32} {aa pa tr yl ys yv : Nat → Int32} {w : Nat → Nat} {A : Nat × (Nat → List Nat)} {p : List Nat} {l r : Nat}
    (hn : A.1 ≤ 12) (hd : de = nI p.length) (hp7 : p.length ≤ 7) (hp : ∀ y, y ∈ p → y < 7) (hsp : yk_sk p pa) (hl : l < 2 ^ 31)
    (hgt : ∀ k, r ≤ k → k < A.1 → l < yk_ln w (A.2 k)) (hT : yk_tb w A yl ys yv) (hq : ∀ k, k < A.1 → (A.2 k).length ≤ 7 ∧ (∀ y, y ∈ A.2 k → y < 7) ∧ yk_ln w (A.2 k) < 2 ^ 31 ∧ yk_lb (A.2 k).reverse p.reverse)
    (h : ∀ f, r < f → wY_keep_17 post (nI l) f (nI r) (nI r - 1) so ta de ke sw ev aa pa tr (yk_s1 r (A.1 + 1) yl) (yk_s1 r (A.1 + 1) ys) (yk_s7 r (A.1 + 1) yv)) :
    ∀ d c, c = r + d → c ≤ A.1 → ∀ f, c < f → wY_keep_17 post (nI l) f (nI c) (nI c - 1) so ta de ke sw ev aa pa tr (yk_s1 c (A.1 + 1) yl) (yk_s1 c (A.1 + 1) ys) (yk_s7 c (A.1 + 1) yv) := by
  intro d
  induction d with
  | zero =>
    intro c hc _ f hf
    have e : c = r := by omega
    subst e
    exact h f hf
  | succ d ih =>
    intro c hc hcn f hf
    obtain ⟨f, rfl⟩ : ∃ g, f = g + 1 := ⟨f - 1, by omega⟩
    obtain ⟨c, rfl⟩ : ∃ g, c = g + 1 := ⟨c - 1, by omega⟩
    rw [wY_keep_17]
    dsimp only
    rw [nI_pred]
    refine br_f (nI_pos (by omega)) ?_
    obtain ⟨q1, q2, q3, q4⟩ := hq c (by omega)
    obtain ⟨t1, t2, t3⟩ := hT c (by omega)
    refine yy_cb (w := w) (p := p) (q := A.2 c) (by omega) hl q3 ((yk_s1_r yl (by omega)).trans t1) ((yk_s1_r ys (by omega)).trans t2) (yk_sk_ag (fun i hi => if_neg (by omega)) t3) hsp hp7 q1 hd hp q2 q4 ?_
    rw [if_pos (hgt c (by omega) (by omega))]
    refine br_f (by decide) ?_
    refine yy_shift (by omega) ?_
    dsimp only
    rw [yk_s1_r yl (show c ≤ c + 1 by omega), yk_s1_r ys (show c ≤ c + 1 by omega), yk_s1_s yl (by omega), yk_s1_s ys (by omega), yk_s7_s yv (by omega)]
    exact nm_r (Int32.sub_eq_add_neg _ _).symm (ih c (by omega) (by omega) f (by omega))

/-- what a kept path leaves -/
theorem yy_keepE {so ta de ke : Int32} {aa pa tr yl ys yv : Nat → Int32} {w : Nat → Nat} {A : Nat × (Nat → List Nat)} {p : List Nat}
    (haa : ∀ c, aa c = nI (w c)) (hpn : p ≠ []) (hk : ke = nI A.1) (hn : A.1 ≤ 12) (hso : yk_so w A) (hd : de = nI p.length) (hp7 : p.length ≤ 7) (hp : ∀ y, y ∈ p → y < 7) (hsp : yk_sk p pa) (hl : yk_ln w p < 2 ^ 31)
    (hT : yk_tb w A yl ys yv) (hq : ∀ k, k < A.1 → (A.2 k).length ≤ 7 ∧ (∀ y, y ∈ A.2 k → y < 7) ∧ yk_ln w (A.2 k) < 2 ^ 31 ∧ yk_lb (A.2 k).reverse p.reverse) :
    ∃ yl' ys' yv', yk_tb w (yk_ad w A p) yl' ys' yv' ∧ ∀ (post : SY → Prop) (sw ev : Int32), post (so, ta, de, nI (yk_ad w A p).1, sw, ev, aa, pa, tr, yl', ys', yv') → wpY_keep post (so, ta, de, ke, sw, ev, aa, pa, tr, yl, ys, yv) := by
  have hn1 := yk_ad_1 w A p
  have hr := yk_rk_le w A.2 (yk_ln w p) A.1
  refine ⟨_, _, _, yk_tb_put hT (fun k hk => (hq k hk).1) hp7 hn (yk_rk w A.2 (yk_ln w p) A.1) (A.1 + 1) rfl (by rw [hn1]; split <;> omega) hsp, fun post sw ev h => ?_⟩
  unfold wpY_keep
  dsimp only
  refine yy_len haa hsp hpn hp hp7 hd ?_
  subst hk
  have hb := fun f (hf : yk_rk w A.2 (yk_ln w p) A.1 < f) => yy_k17b (w := w) (A := A) (m := A.1 + 1) rfl hn hd hp7 hp hsp hl hr (fun k hk => yk_rk_lo hso (yk_ln w p) k hk) hT hq h (yk_rk w A.2 (yk_ln w p) A.1) (Nat.le_refl _) f hf
  have ha := yy_k17a (w := w) (A := A) hn hd hp7 hp hsp hl (yk_rk_gt w A.2 (yk_ln w p) A.1) hT hq hb (A.1 - yk_rk w A.2 (yk_ln w p) A.1) A.1 (by omega) (by omega) (A.1 + 1) (by omega)
  rw [yk_s1_t yl (by omega), yk_s1_t ys (by omega), yk_s7_t yv (by omega)] at ha
  exact nm_e ⟨_, ha⟩

theorem yy_found_11 {post : SY → Prop} {so ta de ke sw ev : Int32} {aa pa tr yl ys yv : Nat → Int32} {m : Nat} {u v x3 : Int32} (hm : m ≤ 7) (hd : de = nI m) :
    ∀ l i msk, yk_fw l pa i → i + l.length = m → (∀ f, 0 < f → wY_found_11 post u v x3 so ta de ke sw ev aa pa tr yl ys yv f (l.foldl (fun m x => m ||| yk_sh x) msk) (nI m)) →
      ∀ f, l.length < f → wY_found_11 post u v x3 so ta de ke sw ev aa pa tr yl ys yv f msk (nI i) := by
  intro l
  induction l with
  | nil =>
    intro i msk _ hi h f hf
    rw [List.length_nil] at hi
    have e : i = m := by omega
    subst e
    exact h f (by omega)
  | cons y l ih =>
    intro i msk hw hi h f hf
    rw [List.length_cons] at hi hf
    have h2 := ih (i + 1) (msk ||| yk_sh y) hw.2 (by omega) h
    obtain ⟨f, rfl⟩ : ∃ g, f = g + 1 := ⟨f - 1, by omega⟩
    rw [wY_found_11]
    dsimp only
    refine br_f (by rw [hd]; exact nI_ge (by omega) (by omega)) ?_
    rw [nI_clamp (show i < 2 ^ 31 by omega), hw.1]
    exact ⟨vp_in_nI (by omega) (by omega), nm_e (nm_r (nI_1 i) (h2 f (by omega)))⟩

def yk_nw (sw x : Int32) (b : Bool) : Int32 := if b = true then sw else if sw = -2 ∨ x < sw then x else sw

theorem yy_foundE {so ta de ke : Int32} {aa pa tr yl ys yv : Nat → Int32} {w : Nat → Nat} {A : Nat × (Nat → List Nat)} {p : List Nat}
    (haa : ∀ c, aa c = nI (w c)) (hpn : p ≠ []) (hk : ke = nI A.1) (hn : A.1 ≤ 12) (hso : yk_so w A) (hd : de = nI p.length) (hp7 : p.length ≤ 7) (hp : ∀ y, y ∈ p → y < 7) (hsp : yk_sk p pa) (hl : yk_ln w p < 2 ^ 31)
    (hT : yk_tb w A yl ys yv) (hq : ∀ k, k < A.1 → (A.2 k).length ≤ 7 ∧ (∀ y, y ∈ A.2 k → y < 7) ∧ yk_ln w (A.2 k) < 2 ^ 31 ∧ yk_lb (A.2 k).reverse p.reverse) (u v : Int32) :
    ∃ yl' ys' yv', yk_tb w (yk_ad w A p) yl' ys' yv' ∧ ∀ (post : SY → Prop) (sw ev : Int32), post (so, ta, de, nI (yk_ad w A p).1, yk_nw sw (nI (yk_ln w p)) (yk_ps u v p), ev &&& yk_mk p, aa, pa, tr, yl', ys', yv') → wpY_found post (so, ta, de, ke, sw, ev, aa, pa, tr, yl, ys, yv) u v := by
  obtain ⟨yl', ys', yv', h1, h2⟩ := yy_keepE (so := so) (ta := ta) (tr := tr) haa hpn hk hn hso hd hp7 hp hsp hl hT hq
  refine ⟨yl', ys', yv', h1, fun post sw ev h => ?_⟩
  unfold wpY_found
  dsimp only
  refine yy_len haa hsp hpn hp hp7 hd ?_
  refine ⟨p.reverse.length + 1, yy_found_11 hp7 hd p.reverse 0 0 (yk_fw_sk hsp) (by rw [List.length_reverse]; omega) (fun f hf => ?_) _ (by omega)⟩
  rw [yk_mk_fo]
  obtain ⟨f, rfl⟩ : ∃ g, f = g + 1 := ⟨f - 1, by omega⟩
  rw [wY_found_11]
  dsimp only
  refine br_t (by rw [hd]; exact nI_le (by omega) (by omega)) (nm_e ?_)
  refine yy_pp hsp hpn hp7 hd ?_
  cases hps : yk_ps u v p with
  | true =>
    rw [hps] at h
    refine br_f (by decide) ?_
    exact h2 _ _ _ h
  | false =>
    rw [hps] at h
    refine br_t rfl (br_c (fun c => ?_) (fun c => br_c (fun c2 => ?_) (fun c2 => ?_)))
    · rw [show yk_nw sw (nI (yk_ln w p)) false = nI (yk_ln w p) from (if_neg (c := false = true) (by decide)).trans (if_pos (c := sw = -2 ∨ nI (yk_ln w p) < sw) (Or.inl c))] at h
      exact h2 _ _ _ h
    · rw [show yk_nw sw (nI (yk_ln w p)) false = sw from (if_neg (c := false = true) (by decide)).trans (if_neg (c := sw = -2 ∨ nI (yk_ln w p) < sw) (fun z => z.elim c (fun z => Int32.not_lt.mpr c2 z)))] at h
      exact h2 _ _ _ h
    · rw [show yk_nw sw (nI (yk_ln w p)) false = nI (yk_ln w p) from (if_neg (c := false = true) (by decide)).trans (if_pos (c := sw = -2 ∨ nI (yk_ln w p) < sw) (Or.inr (Int32.not_le.mp c2)))] at h
      exact h2 _ _ _ h

theorem yk_sw_st {w : Nat → Nat} (hw : ∀ c, w c ≤ 50) {u v : Int32} {K : List (List Nat)} {p : List Nat} (hK : ∀ q, q ∈ K → q.length ≤ 7) (hp : p.length ≤ 7) :
    yk_sw w (yk_ac w ((K ++ [p]).filter (fun q => !yk_ps u v q))) = yk_nw (yk_sw w (yk_ac w (K.filter (fun q => !yk_ps u v q)))) (nI (yk_ln w p)) (yk_ps u v p) := by
  have hlb : ∀ q : List Nat, q.length ≤ 7 → yk_ln w q < 2 ^ 31 := by
    intro q hq
    have := yk_ln_le hw q
    omega
  rw [List.filter_append]
  cases hps : yk_ps u v p with
  | true =>
    have e : List.filter (fun q => !yk_ps u v q) [p] = [] := by simp [hps]
    rw [e, List.append_nil]
    rfl
  | false =>
    have e : List.filter (fun q => !yk_ps u v q) [p] = [p] := by simp [hps]
    have hiv := yk_iv_ac w (K.filter (fun q => !yk_ps u v q))
    rw [e, yk_ac_s, yk_sw_ad hiv.2.2 p (hlb p hp) (fun h0 => hlb _ (hK _ (List.mem_filter.mp (hiv.2.1 0 h0)).1))]
    rfl

def yy_J (w : Nat → Nat) (a : Nat → Int32) (s t : Nat) (u v : Int32) (p : List Nat) (K : List (List Nat)) (y : SY) : Prop := match y with
  | (so, ta, de, ke, sw, ev, aa, pa, _, yl, ys, yv) => so = nI s ∧ ta = nI t ∧ de = nI p.length ∧ ke = nI (yk_ac w K).1 ∧ sw = yk_sw w (yk_ac w (K.filter (fun q => !yk_ps u v q))) ∧ ev = yk_ms K ∧ aa = a ∧ yk_sk p pa ∧ yk_tb w (yk_ac w K) yl ys yv ∧ ∀ q, q ∈ K → q.length ≤ 7 ∧ ∀ y, y ∈ q → y < 7
def yy_nx (y : SY) (i : Nat) : Int32 := y.2.2.2.2.2.2.2.2.1 i
def yy_W (post : SY → Prop) (u v : Int32) (n k : Nat) (y : SY) : Prop := match y with
  | (so, ta, de, ke, sw, ev, aa, pa, tr, yl, ys, yv) => wY_search_41 post u v n (nI k) so ta de ke sw ev aa pa tr yl ys yv

theorem yy_r1 (post : SY → Prop) (w : Nat → Nat) (a : Nat → Int32) (s t : Nat) (ht : t < 7) (u v : Int32) : yk_R1 (yy_W post u v) (yy_J w a s t u v) yy_nx 20000 t := by
  intro x r K y k hv hJ hn hx hk
  obtain ⟨so, ta, de, ke, sw, ev, aa, pa, tr, yl, ys, yv⟩ := y
  obtain ⟨h1, h2, h3, h4, h5, h6, h7, h8, h9, h10⟩ := hJ
  have hlen := yk_vt_len hv
  rw [List.length_cons] at hlen h3
  have hx7 := hv.2 x (List.mem_cons_self ..)
  have hn' : tr (r.length + 1) = nI 7 := hn
  subst h3
  have hxt : ¬ nI x = ta := fun z => hx ((nI_eq (by omega) (by omega)).mp (z.trans h2))
  refine ⟨(so, ta, nI r.length, ke, sw, ev, aa, pa, upd tr (r.length + 1) (nI 7 + 1), yl, ys, yv), ⟨h1, h2, rfl, h4, h5, h6, h7, h8.2, h9, h10⟩, ?_, ?_⟩
  · intro i hi
    exact pk_un (by omega)
  · intro n hW
    show wY_search_41 post u v (n + 1) (nI k) so ta (nI (r.length + 1)) ke sw ev aa pa tr yl ys yv
    rw [wY_search_41]
    dsimp only
    refine br_f (nI_ge (a := k) (b := 20000) (by omega) (by omega)) (br_f (nI_nle (by omega) (by omega)) ?_)
    unfold wpY_turn
    dsimp only
    rw [nI_pred, nI_clamp (show r.length < 2 ^ 31 by omega), nI_clamp (show r.length + 1 < 2 ^ 31 by omega), show pa r.length = nI x from h8.1, hn']
    have i1 : vp_in (nI r.length) 7 := vp_in_nI (by omega) (by omega)
    have i2 : vp_in (nI (r.length + 1)) 8 := vp_in_nI (by omega) (by omega)
    refine ⟨i1, nm_e ⟨i2, nm_e ⟨i2, i2, nm_e (br_f hxt (br_f (by decide) ?_))⟩⟩⟩
    unfold wY_turn_51
    refine br_f hxt ?_
    unfold wY_turn_65
    dsimp only
    exact nm_r (nI_pred _) (nm_r (nI_1 k) hW)

theorem yy_r2 (post : SY → Prop) {w : Nat → Nat} {a : Nat → Int32} (s t : Nat) (ht : t < 7) (u v : Int32) (ha : ∀ c, a c = nI (w c)) (hw : ∀ c, w c ≤ 50) : yk_R2 (yy_W post u v) (yy_J w a s t u v) yy_nx 20000 (yk_ok w 49) t := by
  intro x r K y k d hv hJ h7' hn hx hbl hk
  obtain ⟨so, ta, de, ke, sw, ev, aa, pa, tr, yl, ys, yv⟩ := y
  obtain ⟨h1, h2, h3, h4, h5, h6, h7, h8, h9, h10⟩ := hJ
  have hlen := yk_vt_len hv
  rw [List.length_cons] at hlen h3
  have hx7 := hv.2 x (List.mem_cons_self ..)
  have hn' : tr (r.length + 1) = nI d := hn
  subst h3
  have hxt : ¬ nI x = ta := fun z => hx ((nI_eq (by omega) (by omega)).mp (z.trans h2))
  refine ⟨(so, ta, nI (r.length + 1), ke, sw, ev, aa, pa, upd tr (r.length + 1) (nI (d + 1)), yl, ys, yv), ⟨h1, h2, rfl, h4, h5, h6, h7, h8, h9, h10⟩, pk_us, ?_, ?_⟩
  · intro i hi
    exact pk_un (by omega)
  · intro n hW
    show wY_search_41 post u v (n + 1) (nI k) so ta (nI (r.length + 1)) ke sw ev aa pa tr yl ys yv
    rw [wY_search_41]
    dsimp only
    refine br_f (nI_ge (a := k) (b := 20000) (by omega) (by omega)) (br_f (nI_nle (by omega) (by omega)) ?_)
    unfold wpY_turn
    dsimp only
    rw [nI_pred, nI_clamp (show r.length < 2 ^ 31 by omega), nI_clamp (show r.length + 1 < 2 ^ 31 by omega), show pa r.length = nI x from h8.1, hn']
    have i1 : vp_in (nI r.length) 7 := vp_in_nI (by omega) (by omega)
    have i2 : vp_in (nI (r.length + 1)) 8 := vp_in_nI (by omega) (by omega)
    refine ⟨i1, nm_e ⟨i2, nm_e ⟨i2, i2, nm_r (by rw [nI_1]) (br_f hxt (br_t (nI_le (b := 6) (by omega) (by omega)) ?_))⟩⟩⟩
    rw [yy_7, nI_clamp (show 7 * x + d < 2 ^ 31 by omega), h7, ha]
    have hw1 := hw (7 * x + d)
    refine ⟨vp_in_nI (by omega) (by omega), pk_le (w (7 * x + d)) 0 (fun c => ?_) (fun c => ?_)⟩
    · rw [← h7]
      exact nm_r (nI_1 k) hW
    · refine yy_onPath (p := x :: r) (by omega) h8 hv.2 (by rw [List.length_cons]; omega) rfl ?_
      have hc : (x :: r).contains d = true := by
        have h := hbl
        unfold yk_bl yk_ok at h
        rw [show (x :: r).headD 0 = x from rfl, decide_eq_true (show w (7 * x + d) ≠ 0 by omega), decide_eq_true (show 7 * x + d ≠ 49 by omega)] at h
        simpa using h
      rw [if_pos hc]
      refine br_f (by decide) ?_
      rw [← h7]
      exact nm_r (nI_1 k) hW

theorem yy_push (post : SY → Prop) {w : Nat → Nat} {a : Nat → Int32} (s t : Nat) (ht : t < 7) (u v : Int32) (ha : ∀ c, a c = nI (w c)) (hw : ∀ c, w c ≤ 50) :
    ∀ x r K y k d, yk_vt (d :: x :: r) → yy_J w a s t u v (x :: r) K y → d < 7 → yy_nx y (r.length + 1) = nI d → x ≠ t → yk_bl (yk_ok w 49) (x :: r) d = false → k + 2 ≤ 20000 →
    ∃ s', yy_J w a s t u v (d :: x :: r) K s' ∧ yy_nx s' (r.length + 2) = nI 0 ∧ yy_nx s' (r.length + 1) = nI (d + 1) ∧ (∀ i, i ≤ r.length → yy_nx s' i = yy_nx y i) ∧ ∀ n, yy_W post u v n (k + 1) s' → yy_W post u v (n + 1) k y := by
  intro x r K y k d hvv hJ h7' hn hx hbl hk
  obtain ⟨so, ta, de, ke, sw, ev, aa, pa, tr, yl, ys, yv⟩ := y
  obtain ⟨h1, h2, h3, h4, h5, h6, h7, h8, h9, h10⟩ := hJ
  have hlen := yk_vt_len hvv
  rw [List.length_cons, List.length_cons] at hlen
  rw [List.length_cons] at h3
  have hv : yk_vt (x :: r) := ⟨(List.nodup_cons.mp hvv.1).2, fun y hy => hvv.2 y (List.mem_cons_of_mem d hy)⟩
  have hx7 := hv.2 x (List.mem_cons_self ..)
  have hn' : tr (r.length + 1) = nI d := hn
  subst h3
  have hxt : ¬ nI x = ta := fun z => hx ((nI_eq (by omega) (by omega)).mp (z.trans h2))
  obtain ⟨hok1, hok2⟩ := yk_bl_ok hbl
  refine ⟨(so, ta, nI (r.length + 1 + 1), ke, sw, ev, aa, upd pa (r.length + 1) (nI d), upd (upd tr (r.length + 1) (nI (d + 1))) (r.length + 2) 0, yl, ys, yv), ⟨h1, h2, rfl, h4, h5, h6, h7, ⟨pk_us, yk_sk_ag (fun i hi => ?_) h8⟩, h9, h10⟩, pk_us, ?_, ?_, ?_⟩
  · rw [List.length_cons] at hi
    exact pk_un (by omega)
  · exact (pk_un (by omega)).trans pk_us
  · intro i hi
    exact (pk_un (by omega)).trans (pk_un (by omega))
  · intro n hW
    show wY_search_41 post u v (n + 1) (nI k) so ta (nI (r.length + 1)) ke sw ev aa pa tr yl ys yv
    rw [wY_search_41]
    dsimp only
    refine br_f (nI_ge (a := k) (b := 20000) (by omega) (by omega)) (br_f (nI_nle (by omega) (by omega)) ?_)
    unfold wpY_turn
    dsimp only
    rw [nI_pred, nI_clamp (show r.length < 2 ^ 31 by omega), nI_clamp (show r.length + 1 < 2 ^ 31 by omega), show pa r.length = nI x from h8.1, hn']
    have i1 : vp_in (nI r.length) 7 := vp_in_nI (by omega) (by omega)
    have i2 : vp_in (nI (r.length + 1)) 8 := vp_in_nI (by omega) (by omega)
    refine ⟨i1, nm_e ⟨i2, nm_e ⟨i2, i2, nm_r (by rw [nI_1]) (br_f hxt (br_t (nI_le (b := 6) (by omega) (by omega)) ?_))⟩⟩⟩
    rw [yy_7, nI_clamp (show 7 * x + d < 2 ^ 31 by omega), h7, ha]
    have hw1 := hw (7 * x + d)
    refine ⟨vp_in_nI (by omega) (by omega), br_f (nI_nle (by omega) (by omega)) ?_⟩
    refine yy_onPath (p := x :: r) (by omega) h8 hv.2 (by rw [List.length_cons]; omega) rfl ?_
    rw [yk_bl_c hbl, if_neg (by decide)]
    refine br_t rfl ⟨vp_in_nI (by omega) (by omega), nm_e (nm_r (nI_1 _) ?_)⟩
    rw [nI_clamp (show r.length + 1 + 1 < 2 ^ 31 by omega)]
    refine pk_le (x := 7) 7 (r.length + 1 + 1) (fun c => ?_) (fun c => ⟨vp_in_nI (by omega) (by omega), ?_⟩)
    · have e : r.length + 2 = 7 := by omega
      rw [e] at hW
      rw [← h7, show r.length + 1 + 1 = 7 by omega]
      exact nm_e (nm_r (nI_1 k) hW)
    · rw [← h7]
      exact nm_e (nm_r (nI_1 k) hW)

theorem yy_r3 (post : SY → Prop) {w : Nat → Nat} {a : Nat → Int32} (s t : Nat) (ht : t < 7) (u v : Int32) (ha : ∀ c, a c = nI (w c)) (hw : ∀ c, w c ≤ 50) : yk_R3 (yy_W post u v) (yy_J w a s t u v) yy_nx 20000 (yk_ok w 49) t :=
  fun x r K y k d hvv hJ h7 hn hx hbl _ hk => yy_push post s t ht u v ha hw x r K y k d hvv hJ h7 hn hx hbl hk

theorem yy_hit (post : SY → Prop) {w : Nat → Nat} {a : Nat → Int32} (s t : Nat) (ht : t < 7) (u v : Int32) (ha : ∀ c, a c = nI (w c)) (hw : ∀ c, w c ≤ 50) :
    ∀ x r K y k, yk_vt (t :: x :: r) → yy_J w a s t u v (t :: x :: r) K y → k + 1 ≤ 20000 → yk_pw (K ++ [t :: x :: r]) →
    ∃ s', yy_J w a s t u v (x :: r) (K ++ [t :: x :: r]) s' ∧ (∀ i, i ≤ r.length + 1 → yy_nx s' i = yy_nx y i) ∧ ∀ n, yy_W post u v n (k + 1) s' → yy_W post u v (n + 1) k y := by
  intro x r K y k hvv hJ hk hpw
  obtain ⟨so, ta, de, ke, sw, ev, aa, pa, tr, yl, ys, yv⟩ := y
  obtain ⟨h1, h2, h3, h4, h5, h6, h7, h8, h9, h10⟩ := hJ
  have hlen := yk_vt_len hvv
  have hlen' := hlen
  rw [List.length_cons, List.length_cons] at hlen
  have hlb : ∀ q : List Nat, q.length ≤ 7 → yk_ln w q < 2 ^ 31 := by
    intro q hq
    have := yk_ln_le hw q
    omega
  have hiv := yk_iv_ac w K
  have hpw' := (List.pairwise_append.mp hpw).2.2
  have haa : ∀ c, aa c = nI (w c) := fun c => by rw [h7]; exact ha c
  obtain ⟨yl', ys', yv', hT, hF⟩ := yy_foundE (so := so) (ta := ta) (tr := upd tr (r.length + 1 + 1) (tr (r.length + 1 + 1) + 1)) haa (List.cons_ne_nil _ _) h4 hiv.1 hiv.2.2 h3 hlen' hvv.2 h8 (hlb _ hlen') h9
    (fun k hk => ⟨(h10 _ (hiv.2.1 k hk)).1, (h10 _ (hiv.2.1 k hk)).2, hlb _ (h10 _ (hiv.2.1 k hk)).1, hpw' _ (hiv.2.1 k hk) _ (List.mem_singleton.mpr rfl)⟩) u v
  rw [← yk_ac_s] at hT hF
  rw [List.length_cons, List.length_cons] at h3
  have hsw := yk_sw_st hw (u := u) (v := v) (K := K) (p := t :: x :: r) (fun q hq => (h10 q hq).1) hlen'
  rw [← h5] at hsw
  have hms := yk_ms_s K (t :: x :: r)
  rw [← h6] at hms
  refine ⟨(so, ta, nI (r.length + 1), nI (yk_ac w (K ++ [t :: x :: r])).1, yk_nw sw (nI (yk_ln w (t :: x :: r))) (yk_ps u v (t :: x :: r)), ev &&& yk_mk (t :: x :: r), aa, pa, upd tr (r.length + 1 + 1) (tr (r.length + 1 + 1) + 1), yl', ys', yv'),
    ⟨h1, h2, rfl, rfl, hsw.symm, hms.symm, h7, h8.2, hT, ?_⟩, ?_, ?_⟩
  · intro q hq
    rcases List.mem_append.mp hq with hq | hq
    · exact h10 q hq
    · rw [List.mem_singleton.mp hq]
      exact ⟨hlen', hvv.2⟩
  · intro i hi
    exact pk_un (by omega)
  · intro n hW
    subst h3
    show wY_search_41 post u v (n + 1) (nI k) so ta (nI (r.length + 1 + 1)) ke sw ev aa pa tr yl ys yv
    rw [wY_search_41]
    dsimp only
    refine br_f (nI_ge (a := k) (b := 20000) (by omega) (by omega)) (br_f (nI_nle (by omega) (by omega)) ?_)
    unfold wpY_turn
    dsimp only
    rw [nI_pred, nI_clamp (show r.length + 1 < 2 ^ 31 by omega), nI_clamp (show r.length + 1 + 1 < 2 ^ 31 by omega), show pa (r.length + 1) = nI t from h8.1]
    have i1 : vp_in (nI (r.length + 1)) 7 := vp_in_nI (by omega) (by omega)
    have i2 : vp_in (nI (r.length + 1 + 1)) 8 := vp_in_nI (by omega) (by omega)
    refine ⟨i1, nm_e ⟨i2, nm_e ⟨i2, i2, nm_e (br_t h2.symm ?_)⟩⟩⟩
    unfold wY_turn_51
    refine br_t h2.symm ?_
    refine hF _ _ _ ?_
    unfold wY_turn_65
    dsimp only
    exact nm_r (nI_pred _) (nm_r (nI_1 k) hW)

theorem yy_r4 (post : SY → Prop) {w : Nat → Nat} {a : Nat → Int32} (s t : Nat) (ht : t < 7) (u v : Int32) (ha : ∀ c, a c = nI (w c)) (hw : ∀ c, w c ≤ 50) : yk_R4 (yy_W post u v) (yy_J w a s t u v) yy_nx 20000 (yk_ok w 49) t := by
  intro x r K y k d hvv hJ h7 hn hx hbl hdt hk hpw
  obtain ⟨s1, a1, a2, a3, a4, a5⟩ := yy_push post s t ht u v ha hw x r K y k d hvv hJ h7 hn hx hbl hk
  subst hdt
  obtain ⟨s2, b1, b2, b3⟩ := yy_hit post s d ht u v ha hw x r K s1 (k + 1) hvv a1 (by omega) hpw
  exact ⟨s2, 2, by omega, b1, (b2 _ (by omega)).trans a3, fun i hi => (b2 i (by omega)).trans (a4 i hi), fun n h => a5 (n + 1) (b3 n h)⟩
