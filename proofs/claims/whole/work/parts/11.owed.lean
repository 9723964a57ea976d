/-! The relation and what is owed. -/
def yk_Rel (u : SX) (v : SY) : Prop := ∃ (w : Nat → Nat) (a : Nat → Int32) (s t : Nat), (∀ c, a c = nI (w c)) ∧ (∀ c, w c ≤ 50) ∧ s < 7 ∧ t < 7 ∧ s ≠ t ∧ u.1 = nI s ∧ u.2.1 = nI t ∧ u.2.2.2.2.2.2.1 = a ∧ v.1 = nI s ∧ v.2.1 = nI t ∧ v.2.2.2.2.2.2.1 = a
def i_Rel (k : Nat) (u : SX) (v : SY) : Prop := yk_Rel u v
theorem i_up {k : Nat} {u : SX} {v : SY} (h : i_Rel k u v) : i_Rel (k + 4) u v := h
theorem i_vc0 : wpX_init (fun u => wpY_init (fun v => i_Rel 0 u v)) :=
  ⟨fun _ => 0, fun _ => 0, 0, 6, fun _ => rfl, fun _ => Nat.zero_le 50, by omega, by omega, by omega, rfl, rfl, rfl, rfl, rfl, rfl⟩

theorem yk_rel_of {w : Nat → Nat} {a : Nat → Int32} {s t : Nat} {x y : Int32} {p p' : List Nat} {K K' : List (List Nat)} {u : SX} {v : SY} (ha : ∀ c, a c = nI (w c)) (hw : ∀ c, w c ≤ 50) (hs : s < 7) (ht : t < 7) (hst : s ≠ t)
    (hu : yx_J w a s t p K u) (hv : yy_J w a s t x y p' K' v) : yk_Rel u v := by
  obtain ⟨so, ta, ra, oe, la, ot, aw, al, az, av, tv, tl, nt⟩ := u
  obtain ⟨so', ta', de, ke, sw, ev, aa, pa, tr, yl, ys, yv⟩ := v
  exact ⟨w, a, s, t, ha, hw, hs, ht, hst, hu.1, hu.2.1, hu.2.2.2.2.2.2.1, hv.1, hv.2.1, hv.2.2.2.2.2.2.1⟩

theorem yk_f1 : ∀ c, c < 49 → (nI c = -1 ↔ c = 49) := fun c hc => ⟨fun z => absurd z (yk_n1 (by omega)), fun z => by omega⟩

theorem yk_pr (u v : Int32) : (∃ i j, i < 7 ∧ j < 7 ∧ u = nI i ∧ v = nI j) ∨ (u < 0 ∨ (7 ≤ u ∧ ¬ u < 0)) ∨ (∃ i, i < 7 ∧ u = nI i ∧ (v < 0 ∨ (7 ≤ v ∧ ¬ v < 0))) := by
  have hb : ∀ x : Int32, x < 0 ∨ (7 ≤ x ∧ ¬ x < 0) ∨ ∃ j : Nat, j < 7 ∧ x = nI j := by
    intro x
    by_cases h : x < 0
    · exact Or.inl h
    · rcases pk_ix x (n := 7) (by omega) with c | c | c
      · exact absurd c h
      · exact Or.inr (Or.inl ⟨c, h⟩)
      · exact Or.inr (Or.inr c)
  rcases hb u with c | c | ⟨i, hi, ei⟩
  · exact Or.inr (Or.inl (Or.inl c))
  · exact Or.inr (Or.inl (Or.inr c))
  · rcases hb v with c | c | ⟨j, hj, ej⟩
    · exact Or.inr (Or.inr ⟨i, hi, ei, Or.inl c⟩)
    · exact Or.inr (Or.inr ⟨i, hi, ei, Or.inr c⟩)
    · exact Or.inl ⟨i, j, hi, hj, ei, ej⟩
theorem yx_pair_ok {post : Int32 → Prop} {i j : Nat} (hi : i < 7) (hj : j < 7) (h : post 1) : wpX_isPair post (nI i) (nI j) :=
  br_f (nI_pos (by omega)) (br_f (nI_ge (b := 7) hi (by omega)) (br_f (nI_pos (by omega)) (br_f (nI_ge (b := 7) hj (by omega)) h)))
theorem yx_pair_bad {post : Int32 → Prop} {u v : Int32} (hb : (u < 0 ∨ (7 ≤ u ∧ ¬ u < 0)) ∨ (∃ i, i < 7 ∧ u = nI i ∧ (v < 0 ∨ (7 ≤ v ∧ ¬ v < 0)))) (h : post 0) : wpX_isPair post u v := by
  unfold wpX_isPair
  rcases hb with (c | c) | ⟨i, hi, rfl, c | c⟩
  · exact br_t c h
  · exact br_f c.2 (br_t c.1 h)
  · exact br_f (nI_pos (by omega)) (br_f (nI_ge (b := 7) hi (by omega)) (br_t c h))
  · exact br_f (nI_pos (by omega)) (br_f (nI_ge (b := 7) hi (by omega)) (br_f c.2 (br_t c.1 h)))
theorem yy_ver_ok {post : Int32 → Prop} {so ta de ke sw ev : Int32} {aa pa tr yl ys yv : Nat → Int32} {i : Nat} (hi : i < 7) (h : post 1) : wpY_isVertex post (so, ta, de, ke, sw, ev, aa, pa, tr, yl, ys, yv) (nI i) :=
  br_f (nI_pos (by omega)) (br_f (nI_nlt (a := 6) (by omega) (by omega)) h)
theorem yk_67 {x : Int32} (h : 7 ≤ x) : 6 < x := by
  have h1 : (7 : Int32).toInt ≤ x.toInt := Int32.le_iff_toInt_le.mp h
  refine Int32.lt_iff_toInt_lt.mpr ?_
  have e7 : (7 : Int32).toInt = 7 := by decide
  have e6 : (6 : Int32).toInt = 6 := by decide
  omega
theorem yy_ver_bad {post : Int32 → Prop} {so ta de ke sw ev : Int32} {aa pa tr yl ys yv : Nat → Int32} {x : Int32} (c : x < 0 ∨ (7 ≤ x ∧ ¬ x < 0)) (h : post 0) : wpY_isVertex post (so, ta, de, ke, sw, ev, aa, pa, tr, yl, ys, yv) x := by
  unfold wpY_isVertex
  dsimp only
  rcases c with c | c
  · exact br_t c h
  · exact br_f c.2 (br_t (yk_67 c.1) h)
theorem yy_two_bad {A B : Prop} {so ta de ke sw ev : Int32} {aa pa tr yl ys yv : Nat → Int32} {u v : Int32} (hb : (u < 0 ∨ (7 ≤ u ∧ ¬ u < 0)) ∨ (∃ i, i < 7 ∧ u = nI i ∧ (v < 0 ∨ (7 ≤ v ∧ ¬ v < 0)))) (a : A) :
    wpY_isVertex (fun r => (r = 0 → A) ∧ (¬ r = 0 → wpY_isVertex (fun r => (r = 0 → A) ∧ (¬ r = 0 → B)) (so, ta, de, ke, sw, ev, aa, pa, tr, yl, ys, yv) v)) (so, ta, de, ke, sw, ev, aa, pa, tr, yl, ys, yv) u := by
  rcases hb with c | ⟨i, hi, rfl, c⟩
  · exact yy_ver_bad c (br_t rfl a)
  · exact yy_ver_ok hi (br_f (by decide) (yy_ver_bad c (br_t rfl a)))
theorem yy_two_ok {A B : Prop} {so ta de ke sw ev : Int32} {aa pa tr yl ys yv : Nat → Int32} {i j : Nat} (hi : i < 7) (hj : j < 7) (b : B) :
    wpY_isVertex (fun r => (r = 0 → A) ∧ (¬ r = 0 → wpY_isVertex (fun r => (r = 0 → A) ∧ (¬ r = 0 → B)) (so, ta, de, ke, sw, ev, aa, pa, tr, yl, ys, yv) (nI j))) (so, ta, de, ke, sw, ev, aa, pa, tr, yl, ys, yv) (nI i) :=
  yy_ver_ok hi (br_f (by decide) (yy_ver_ok hj (br_f (by decide) b)))
theorem yx_7 (i j : Nat) : nI i * 7 + nI j = nI (7 * i + j) := by
  rw [show nI i * (7 : Int32) = nI (i * 7) from pk_mul i 7, nI_add, Nat.mul_comm]

theorem i_vc_arc {k : Nat} {u : SX} {v : SY} (I : i_Rel k u v) (hk : k + 4 ≤ 2048) (v1 : Int32) (v2 : Int32) (v3 : Int32) : wpX_arc (fun r u' => wpY_arc (fun r' v' => r' = r ∧ i_Rel (k + 4) u' v') v v1 v2 v3) u v1 v2 v3 := by
  obtain ⟨so, ta, ra, oe, la, ot, aw, al, az, av, tv, tl, nt⟩ := u
  obtain ⟨so', ta', de, ke, sw, ev, aa, pa, tr, yl, ys, yv⟩ := v
  unfold wpX_arc wpY_arc
  dsimp only
  rcases yk_pr v1 v2 with ⟨i, j, hi, hj, rfl, rfl⟩ | hb
  · refine yx_pair_ok hi hj (br_f (by decide) ?_)
    by_cases e : nI i = nI j
    · exact br_t e (yy_two_ok hi hj (br_t e ⟨rfl, I⟩))
    · by_cases h0 : v3 < 0
      · exact br_f e (br_t h0 (yy_two_ok hi hj (br_f e (br_t h0 ⟨rfl, I⟩))))
      · by_cases h5 : v3 ≤ 50
        · obtain ⟨m, hm, rfl⟩ := nI_of2 (M := 50) (n := 50) (by decide) h0 h5
          rw [yx_7, yy_7, nI_clamp (show 7 * i + j < 2 ^ 31 by omega)]
          have hin : vp_in (nI (7 * i + j)) 49 := vp_in_nI (by omega) (by omega)
          obtain ⟨w, a, s, t, ha, hw, hs, ht, hst, g1, g2, g3, g4, g5, g6⟩ := I
          refine br_f e (br_f h0 (br_t h5 ⟨hin, nm_e (yy_two_ok hi hj (br_f e (br_f h0 (br_t h5 ⟨hin, nm_e ⟨rfl, ?_⟩⟩))))⟩))
          refine ⟨fun c => if c = 7 * i + j then m else w c, upd a (7 * i + j) (nI m), s, t, ?_, ?_, hs, ht, hst, g1, g2, ?_, g4, g5, ?_⟩
          · intro c
            dsimp only
            by_cases h : c = 7 * i + j
            · rw [h, pk_us, if_pos rfl]
            · rw [pk_un h, if_neg h]; exact ha c
          · intro c
            dsimp only
            split
            · exact hm
            · exact hw c
          · exact congrArg (fun z => upd z (7 * i + j) (nI m)) g3
          · exact congrArg (fun z => upd z (7 * i + j) (nI m)) g6
        · exact br_f e (br_f h0 (br_f h5 (yy_two_ok hi hj (br_f e (br_f h0 (br_f h5 ⟨rfl, I⟩))))))
  · exact yx_pair_bad hb (br_t rfl (yy_two_bad hb ⟨rfl, I⟩))

theorem i_vc_ends {k : Nat} {u : SX} {v : SY} (I : i_Rel k u v) (hk : k + 4 ≤ 2048) (v1 : Int32) (v2 : Int32) : wpX_ends (fun r u' => wpY_ends (fun r' v' => r' = r ∧ i_Rel (k + 4) u' v') v v1 v2) u v1 v2 := by
  obtain ⟨so, ta, ra, oe, la, ot, aw, al, az, av, tv, tl, nt⟩ := u
  obtain ⟨so', ta', de, ke, sw, ev, aa, pa, tr, yl, ys, yv⟩ := v
  unfold wpX_ends wpY_ends
  dsimp only
  rcases yk_pr v1 v2 with ⟨i, j, hi, hj, rfl, rfl⟩ | hb
  · refine yx_pair_ok hi hj (br_f (by decide) ?_)
    by_cases e : nI i = nI j
    · exact br_t e (yy_two_ok hi hj (br_t e ⟨rfl, I⟩))
    · obtain ⟨w, a, s, t, ha, hw, hs, ht, hst, g1, g2, g3, g4, g5, g6⟩ := I
      exact br_f e (yy_two_ok hi hj (br_f e ⟨rfl, w, a, i, j, ha, hw, hi, hj, fun z => e (congrArg nI z), rfl, rfl, g3, rfl, rfl, g6⟩))
  · exact yx_pair_bad hb (br_t rfl (yy_two_bad hb ⟨rfl, I⟩))

theorem i_vc_weight {k : Nat} {u : SX} {v : SY} (I : i_Rel k u v) (hk : k + 4 ≤ 2048) (v1 : Int32) (v2 : Int32) : wpX_weight (fun r => wpY_weight (fun r' => r' = r ∧ i_Rel (k + 4) u v) v v1 v2) u v1 v2 := by
  obtain ⟨so, ta, ra, oe, la, ot, aw, al, az, av, tv, tl, nt⟩ := u
  obtain ⟨so', ta', de, ke, sw, ev, aa, pa, tr, yl, ys, yv⟩ := v
  unfold wpX_weight wpY_weight
  dsimp only
  rcases yk_pr v1 v2 with ⟨i, j, hi, hj, rfl, rfl⟩ | hb
  · rw [yx_7, yy_7]
    have hin : vp_in (nI (7 * i + j)) 49 := vp_in_nI (by omega) (by omega)
    have I2 := I
    obtain ⟨w, a, s, t, ha, hw, hs, ht, hst, g1, g2, g3, g4, g5, g6⟩ := I2
    exact yx_pair_ok hi hj (br_f (by decide) ⟨hin, yy_two_ok hi hj ⟨hin, congrFun (g6.trans g3.symm) _, I⟩⟩)
  · exact yx_pair_bad hb (br_t rfl (yy_two_bad hb ⟨rfl, I⟩))

theorem yk_okf {w : Nat → Nat} {i j : Nat} (hi : i < 7) (hj : j < 7) : ∀ x y, x < 7 → y < 7 → yk_ok w (7 * i + j) x y = (yk_ok w 49 x y && !(decide (nI x = nI i) && decide (nI y = nI j))) := by
  intro x y hx hy
  unfold yk_ok
  rw [decide_eq_true (show 7 * x + y ≠ 49 by omega), Bool.and_true]
  congr 1
  by_cases h : x = i ∧ y = j
  · rw [h.1, h.2]
    simp
  · have h1 : 7 * x + y ≠ 7 * i + j := fun z => h ⟨by omega, by omega⟩
    rw [decide_eq_true h1]
    by_cases hx2 : nI x = nI i
    · by_cases hy2 : nI y = nI j
      · exact absurd ⟨(nI_eq (by omega) (by omega)).mp hx2, (nI_eq (by omega) (by omega)).mp hy2⟩ h
      · rw [decide_eq_false hy2, Bool.and_false]; rfl
    · rw [decide_eq_false hx2, Bool.false_and]; rfl

theorem i_vc_paths {k : Nat} {u : SX} {v : SY} (I : i_Rel k u v) (hk : k + 4 ≤ 2048) : wpX_paths (fun r u' => wpY_paths (fun r' v' => r' = r ∧ i_Rel (k + 4) u' v') v) u := by
  obtain ⟨so, ta, ra, oe, la, ot, aw, al, az, av, tv, tl, nt⟩ := u
  obtain ⟨so', ta', de, ke, sw, ev, aa, pa, tr, yl, ys, yv⟩ := v
  obtain ⟨w, a, s, t, ha, hw, hs, ht, hst, g1, g2, g3, g4, g5, g6⟩ := I
  unfold wpX_paths wpY_paths
  dsimp only
  refine yx_rank (fb := 49) ha hw hs ht hst yk_f1 g1 g2 g3 (fun u' hu => ?_)
  obtain ⟨xo, xt, ra', oe', la', ot', aw', al', az', av', tv', tl', nt'⟩ := u'
  dsimp only
  have hu' := hu
  obtain ⟨_, _, x3, x4, _, _, _, x8, _, _, x11⟩ := hu'
  have hiv := yk_iv_ac w (yk_ds (yk_ok w 49) t 7 [s])
  have h12 := hiv.1
  refine yy_search ha hw hs ht hst g4 g5 g6 (fun v' hv => ?_)
  obtain ⟨yo, yt, de', ke', sw', ev', aa', pa', tr', yl', ys', yv'⟩ := v'
  dsimp only
  have hv' := hv
  obtain ⟨_, _, _, y4, y5, y6, _, _, y9, _⟩ := hv'
  exact ⟨y4.trans x3.symm, yk_rel_of ha hw hs ht hst hu hv⟩

theorem i_vc_unavoidable {k : Nat} {u : SX} {v : SY} (I : i_Rel k u v) (hk : k + 4 ≤ 2048) : wpX_unavoidable (fun r u' => wpY_unavoidable (fun r' v' => r' = r ∧ i_Rel (k + 4) u' v') v) u := by
  obtain ⟨so, ta, ra, oe, la, ot, aw, al, az, av, tv, tl, nt⟩ := u
  obtain ⟨so', ta', de, ke, sw, ev, aa, pa, tr, yl, ys, yv⟩ := v
  obtain ⟨w, a, s, t, ha, hw, hs, ht, hst, g1, g2, g3, g4, g5, g6⟩ := I
  unfold wpX_unavoidable wpY_unavoidable
  dsimp only
  refine yx_rank (fb := 49) ha hw hs ht hst yk_f1 g1 g2 g3 (fun u' hu => ?_)
  obtain ⟨xo, xt, ra', oe', la', ot', aw', al', az', av', tv', tl', nt'⟩ := u'
  dsimp only
  have hu' := hu
  obtain ⟨_, _, x3, x4, _, _, _, x8, _, _, x11⟩ := hu'
  have hiv := yk_iv_ac w (yk_ds (yk_ok w 49) t 7 [s])
  have h12 := hiv.1
  refine yy_search ha hw hs ht hst g4 g5 g6 (fun v' hv => ?_)
  obtain ⟨yo, yt, de', ke', sw', ev', aa', pa', tr', yl', ys', yv'⟩ := v'
  dsimp only
  have hv' := hv
  obtain ⟨_, _, _, y4, y5, y6, _, _, y9, _⟩ := hv'
  exact ⟨y6.trans x4.symm, yk_rel_of ha hw hs ht hst hu hv⟩

theorem i_vc_length {k : Nat} {u : SX} {v : SY} (I : i_Rel k u v) (hk : k + 4 ≤ 2048) (v1 : Int32) : wpX_length (fun r u' => wpY_length (fun r' v' => r' = r ∧ i_Rel (k + 4) u' v') v v1) u v1 := by
  obtain ⟨so, ta, ra, oe, la, ot, aw, al, az, av, tv, tl, nt⟩ := u
  obtain ⟨so', ta', de, ke, sw, ev, aa, pa, tr, yl, ys, yv⟩ := v
  obtain ⟨w, a, s, t, ha, hw, hs, ht, hst, g1, g2, g3, g4, g5, g6⟩ := I
  unfold wpX_length wpY_length
  dsimp only
  refine yx_rank (fb := 49) ha hw hs ht hst yk_f1 g1 g2 g3 (fun u' hu => ?_)
  obtain ⟨xo, xt, ra', oe', la', ot', aw', al', az', av', tv', tl', nt'⟩ := u'
  dsimp only
  have hu' := hu
  obtain ⟨_, _, x3, x4, _, _, _, x8, _, _, x11⟩ := hu'
  have hiv := yk_iv_ac w (yk_ds (yk_ok w 49) t 7 [s])
  have h12 := hiv.1
  unfold wpX_isRanked
  dsimp only
  subst x3
  rcases pk_ix v1 (n := (yk_ac w (yk_ds (yk_ok w 49) t 7 [s])).1) (by omega) with c | c | ⟨j, hj, rfl⟩
  · refine br_t c (br_t rfl ?_)
    refine yy_search ha hw hs ht hst g4 g5 g6 (fun v' hv => ?_)
    obtain ⟨yo, yt, de', ke', sw', ev', aa', pa', tr', yl', ys', yv'⟩ := v'
    dsimp only
    have hv' := hv
    obtain ⟨_, _, _, y4, y5, y6, _, _, y9, _⟩ := hv'
    exact br_t c ⟨rfl, yk_rel_of ha hw hs ht hst hu hv⟩
  · have c0 : ¬ v1 < 0 := fun z => nI_pos (by omega) (Int32.lt_of_le_of_lt c z)
    refine br_f c0 (br_t c (br_t rfl ?_))
    refine yy_search ha hw hs ht hst g4 g5 g6 (fun v' hv => ?_)
    obtain ⟨yo, yt, de', ke', sw', ev', aa', pa', tr', yl', ys', yv'⟩ := v'
    dsimp only
    have hv' := hv
    obtain ⟨_, _, _, y4, y5, y6, _, _, y9, _⟩ := hv'
    subst y4
    exact br_f c0 (br_t c ⟨rfl, yk_rel_of ha hw hs ht hst hu hv⟩)
  · refine br_f (nI_pos (by omega)) (br_f (nI_ge hj (by omega)) (br_f (by decide) ⟨vp_in_nI (by omega) (by omega), ?_⟩))
    refine yy_search ha hw hs ht hst g4 g5 g6 (fun v' hv => ?_)
    obtain ⟨yo, yt, de', ke', sw', ev', aa', pa', tr', yl', ys', yv'⟩ := v'
    dsimp only
    have hv' := hv
    obtain ⟨_, _, _, y4, y5, y6, _, _, y9, _⟩ := hv'
    subst y4
    rw [nI_clamp (show j < 2 ^ 31 by omega)]
    exact br_f (nI_pos (by omega)) (br_f (nI_ge hj (by omega)) ⟨vp_in_nI (by omega) (by omega), (y9 j hj).1.trans (x8 j hj).1.symm, yk_rel_of ha hw hs ht hst hu hv⟩)

theorem i_vc_size {k : Nat} {u : SX} {v : SY} (I : i_Rel k u v) (hk : k + 4 ≤ 2048) (v1 : Int32) : wpX_size (fun r u' => wpY_size (fun r' v' => r' = r ∧ i_Rel (k + 4) u' v') v v1) u v1 := by
  obtain ⟨so, ta, ra, oe, la, ot, aw, al, az, av, tv, tl, nt⟩ := u
  obtain ⟨so', ta', de, ke, sw, ev, aa, pa, tr, yl, ys, yv⟩ := v
  obtain ⟨w, a, s, t, ha, hw, hs, ht, hst, g1, g2, g3, g4, g5, g6⟩ := I
  unfold wpX_size wpY_size
  dsimp only
  refine yx_rank (fb := 49) ha hw hs ht hst yk_f1 g1 g2 g3 (fun u' hu => ?_)
  obtain ⟨xo, xt, ra', oe', la', ot', aw', al', az', av', tv', tl', nt'⟩ := u'
  dsimp only
  have hu' := hu
  obtain ⟨_, _, x3, x4, _, _, _, x8, _, _, x11⟩ := hu'
  have hiv := yk_iv_ac w (yk_ds (yk_ok w 49) t 7 [s])
  have h12 := hiv.1
  unfold wpX_isRanked
  dsimp only
  subst x3
  rcases pk_ix v1 (n := (yk_ac w (yk_ds (yk_ok w 49) t 7 [s])).1) (by omega) with c | c | ⟨j, hj, rfl⟩
  · refine br_t c (br_t rfl ?_)
    refine yy_search ha hw hs ht hst g4 g5 g6 (fun v' hv => ?_)
    obtain ⟨yo, yt, de', ke', sw', ev', aa', pa', tr', yl', ys', yv'⟩ := v'
    dsimp only
    have hv' := hv
    obtain ⟨_, _, _, y4, y5, y6, _, _, y9, _⟩ := hv'
    exact br_t c ⟨rfl, yk_rel_of ha hw hs ht hst hu hv⟩
  · have c0 : ¬ v1 < 0 := fun z => nI_pos (by omega) (Int32.lt_of_le_of_lt c z)
    refine br_f c0 (br_t c (br_t rfl ?_))
    refine yy_search ha hw hs ht hst g4 g5 g6 (fun v' hv => ?_)
    obtain ⟨yo, yt, de', ke', sw', ev', aa', pa', tr', yl', ys', yv'⟩ := v'
    dsimp only
    have hv' := hv
    obtain ⟨_, _, _, y4, y5, y6, _, _, y9, _⟩ := hv'
    subst y4
    exact br_f c0 (br_t c ⟨rfl, yk_rel_of ha hw hs ht hst hu hv⟩)
  · refine br_f (nI_pos (by omega)) (br_f (nI_ge hj (by omega)) (br_f (by decide) ⟨vp_in_nI (by omega) (by omega), ?_⟩))
    refine yy_search ha hw hs ht hst g4 g5 g6 (fun v' hv => ?_)
    obtain ⟨yo, yt, de', ke', sw', ev', aa', pa', tr', yl', ys', yv'⟩ := v'
    dsimp only
    have hv' := hv
    obtain ⟨_, _, _, y4, y5, y6, _, _, y9, _⟩ := hv'
    subst y4
    rw [nI_clamp (show j < 2 ^ 31 by omega)]
    exact br_f (nI_pos (by omega)) (br_f (nI_ge hj (by omega)) ⟨vp_in_nI (by omega) (by omega), (y9 j hj).2.1.trans (x8 j hj).2.1.symm, yk_rel_of ha hw hs ht hst hu hv⟩)

theorem i_vc_vertex {k : Nat} {u : SX} {v : SY} (I : i_Rel k u v) (hk : k + 4 ≤ 2048) (v1 : Int32) (v2 : Int32) : wpX_vertex (fun r u' => wpY_vertex (fun r' v' => r' = r ∧ i_Rel (k + 4) u' v') v v1 v2) u v1 v2 := by
  obtain ⟨so, ta, ra, oe, la, ot, aw, al, az, av, tv, tl, nt⟩ := u
  obtain ⟨so', ta', de, ke, sw, ev, aa, pa, tr, yl, ys, yv⟩ := v
  obtain ⟨w, a, s, t, ha, hw, hs, ht, hst, g1, g2, g3, g4, g5, g6⟩ := I
  unfold wpX_vertex wpY_vertex
  dsimp only
  refine yx_rank (fb := 49) ha hw hs ht hst yk_f1 g1 g2 g3 (fun u' hu => ?_)
  obtain ⟨xo, xt, ra', oe', la', ot', aw', al', az', av', tv', tl', nt'⟩ := u'
  dsimp only
  have hu' := hu
  obtain ⟨_, _, x3, x4, _, _, _, x8, _, _, x11⟩ := hu'
  have hiv := yk_iv_ac w (yk_ds (yk_ok w 49) t 7 [s])
  have h12 := hiv.1
  unfold wpX_isRanked
  dsimp only
  subst x3
  rcases pk_ix v1 (n := (yk_ac w (yk_ds (yk_ok w 49) t 7 [s])).1) (by omega) with c | c | ⟨j, hj, rfl⟩
  · refine br_t c (br_t rfl ?_)
    refine yy_search ha hw hs ht hst g4 g5 g6 (fun v' hv => ?_)
    obtain ⟨yo, yt, de', ke', sw', ev', aa', pa', tr', yl', ys', yv'⟩ := v'
    dsimp only
    have hv' := hv
    obtain ⟨_, _, _, y4, y5, y6, _, _, y9, _⟩ := hv'
    exact br_t c ⟨rfl, yk_rel_of ha hw hs ht hst hu hv⟩
  · have c0 : ¬ v1 < 0 := fun z => nI_pos (by omega) (Int32.lt_of_le_of_lt c z)
    refine br_f c0 (br_t c (br_t rfl ?_))
    refine yy_search ha hw hs ht hst g4 g5 g6 (fun v' hv => ?_)
    obtain ⟨yo, yt, de', ke', sw', ev', aa', pa', tr', yl', ys', yv'⟩ := v'
    dsimp only
    have hv' := hv
    obtain ⟨_, _, _, y4, y5, y6, _, _, y9, _⟩ := hv'
    subst y4
    exact br_f c0 (br_t c ⟨rfl, yk_rel_of ha hw hs ht hst hu hv⟩)
  · obtain ⟨t1, t2, t3⟩ := x8 j hj
    have hq7 := x11 _ (hiv.2.1 j hj)
    have i12 : vp_in (nI j) 12 := vp_in_nI (by omega) (by omega)
    have i13 : vp_in (nI j) 13 := vp_in_nI (by omega) (by omega)
    rw [nI_clamp (show j < 2 ^ 31 by omega), t2]
    refine br_f (nI_pos (by omega)) (br_f (nI_ge hj (by omega)) (br_f (by decide) ?_))
    rcases pk_ix v2 (n := ((yk_ac w (yk_ds (yk_ok w 49) t 7 [s])).2 j).length) (by omega) with c | c | ⟨i, hi, rfl⟩
    · refine br_t c ?_
      refine yy_search ha hw hs ht hst g4 g5 g6 (fun v' hv => ?_)
      obtain ⟨yo, yt, de', ke', sw', ev', aa', pa', tr', yl', ys', yv'⟩ := v'
      dsimp only
      have hv' := hv
      obtain ⟨_, _, _, y4, y5, y6, _, _, y9, _⟩ := hv'
      subst y4
      exact br_f (nI_pos (by omega)) (br_f (nI_ge hj (by omega)) (br_t c ⟨rfl, yk_rel_of ha hw hs ht hst hu hv⟩))
    · have c0 : ¬ v2 < 0 := fun z => nI_pos (by omega) (Int32.lt_of_le_of_lt c z)
      refine br_f c0 ⟨i12, br_f (Int32.not_lt.mpr c) ?_⟩
      refine yy_search ha hw hs ht hst g4 g5 g6 (fun v' hv => ?_)
      obtain ⟨yo, yt, de', ke', sw', ev', aa', pa', tr', yl', ys', yv'⟩ := v'
      dsimp only
      have hv' := hv
      obtain ⟨_, _, _, y4, y5, y6, _, _, y9, _⟩ := hv'
      subst y4
      rw [(y9 j hj).2.1]
      exact br_f (nI_pos (by omega)) (br_f (nI_ge hj (by omega)) (br_f c0 ⟨i13, br_t c ⟨rfl, yk_rel_of ha hw hs ht hst hu hv⟩⟩))
    · rw [yx_7]
      refine br_f (nI_pos (by omega)) ⟨i12, br_t (nI_lt hi (by omega)) ⟨vp_in_nI (by omega) (by omega), ?_⟩⟩
      refine yy_search ha hw hs ht hst g4 g5 g6 (fun v' hv => ?_)
      obtain ⟨yo, yt, de', ke', sw', ev', aa', pa', tr', yl', ys', yv'⟩ := v'
      dsimp only
      have hv' := hv
      obtain ⟨_, _, _, y4, y5, y6, _, _, y9, _⟩ := hv'
      subst y4
      rw [yy_7, nI_clamp (show 7 * j + i < 2 ^ 31 by omega), (y9 j hj).2.1]
      exact br_f (nI_pos (by omega)) (br_f (nI_ge hj (by omega)) (br_f (nI_pos (by omega)) ⟨i13, br_f (nI_ge hi (by omega)) ⟨vp_in_nI (by omega) (by omega), yk_sk_eq (y9 j hj).2.2 t3 i hi, yk_rel_of ha hw hs ht hst hu hv⟩⟩))

theorem i_vc_passing {k : Nat} {u : SX} {v : SY} (I : i_Rel k u v) (hk : k + 4 ≤ 2048) (v1 : Int32) (v2 : Int32) : wpX_passing (fun r u' => wpY_passing (fun r' v' => r' = r ∧ i_Rel (k + 4) u' v') v v1 v2) u v1 v2 := by
  have I2 := I
  obtain ⟨so, ta, ra, oe, la, ot, aw, al, az, av, tv, tl, nt⟩ := u
  obtain ⟨so', ta', de, ke, sw, ev, aa, pa, tr, yl, ys, yv⟩ := v
  obtain ⟨w, a, s, t, ha, hw, hs, ht, hst, g1, g2, g3, g4, g5, g6⟩ := I
  unfold wpX_passing wpY_passing
  dsimp only
  rcases yk_pr v1 v2 with ⟨i, j, hi, hj, rfl, rfl⟩ | hb
  rotate_left
  · exact yx_pair_bad hb (br_t rfl (yy_two_bad hb ⟨rfl, I2⟩))
  refine yx_pair_ok hi hj (br_f (by decide) ?_)
  refine yx_rank (fb := 49) ha hw hs ht hst yk_f1 g1 g2 g3 (fun u' hu => ?_)
  obtain ⟨xo, xt, ra', oe', la', ot', aw', al', az', av', tv', tl', nt'⟩ := u'
  dsimp only
  have hu' := hu
  obtain ⟨_, _, x3, x4, _, _, _, x8, _, _, x11⟩ := hu'
  have hiv := yk_iv_ac w (yk_ds (yk_ok w 49) t 7 [s])
  have h12 := hiv.1
  have h7 := fun k hk => x11 _ (hiv.2.1 k hk)
  refine ⟨(yk_ac w (yk_ds (yk_ok w 49) t 7 [s])).1 + 1, yx_passing_20 (w := w) (A := yk_ac w (yk_ds (yk_ok w 49) t 7 [s])) h12 x3 x8 h7 ?_ (yk_ac w (yk_ds (yk_ok w 49) t 7 [s])).1 0 (by omega) _ (by omega)⟩
  refine yy_two_ok hi hj ?_
  refine yy_search ha hw hs ht hst g4 g5 g6 (fun v' hv => ?_)
  obtain ⟨yo, yt, de', ke', sw', ev', aa', pa', tr', yl', ys', yv'⟩ := v'
  dsimp only
  have hv' := hv
  obtain ⟨_, _, _, y4, y5, y6, _, _, y9, _⟩ := hv'
  exact ⟨(yk_ac w (yk_ds (yk_ok w 49) t 7 [s])).1 + 1, yy_passing_29 (w := w) (A := yk_ac w (yk_ds (yk_ok w 49) t 7 [s])) h12 y4 y9 h7 ⟨rfl, yk_rel_of ha hw hs ht hst hu hv⟩ (yk_ac w (yk_ds (yk_ok w 49) t 7 [s])).1 0 (by omega) _ (by omega)⟩

theorem i_vc_avoiding {k : Nat} {u : SX} {v : SY} (I : i_Rel k u v) (hk : k + 4 ≤ 2048) (v1 : Int32) (v2 : Int32) : wpX_avoiding (fun r u' => wpY_avoiding (fun r' v' => r' = r ∧ i_Rel (k + 4) u' v') v v1 v2) u v1 v2 := by
  have I2 := I
  obtain ⟨so, ta, ra, oe, la, ot, aw, al, az, av, tv, tl, nt⟩ := u
  obtain ⟨so', ta', de, ke, sw, ev, aa, pa, tr, yl, ys, yv⟩ := v
  obtain ⟨w, a, s, t, ha, hw, hs, ht, hst, g1, g2, g3, g4, g5, g6⟩ := I
  unfold wpX_avoiding wpY_avoiding
  dsimp only
  rcases yk_pr v1 v2 with ⟨i, j, hi, hj, rfl, rfl⟩ | hb
  rotate_left
  · exact yx_pair_bad hb (br_t rfl (yy_two_bad hb ⟨rfl, I2⟩))
  refine yx_pair_ok hi hj (br_f (by decide) ?_)
  rw [yx_7]
  refine yx_rank (fb := 7 * i + j) ha hw hs ht hst (fun c hc => nI_eq (by omega) (by omega)) g1 g2 g3 (fun u' hu => ?_)
  obtain ⟨xo, xt, ra', oe', la', ot', aw', al', az', av', tv', tl', nt'⟩ := u'
  dsimp only
  have hu' := hu
  obtain ⟨_, _, x3, x4, _, _, _, x8, _, _, x11⟩ := hu'
  have hiv := yk_iv_ac w (yk_ds (yk_ok w (7 * i + j)) t 7 [s])
  have h12 := hiv.1
  have hfil := yk_ds_fil (okX := yk_ok w (7 * i + j)) (okY := yk_ok w 49) (t := t) (u := nI i) (v := nI j) (yk_okf hi hj) 7 [s] (by simp) hs rfl
  unfold wpX_isRanked
  dsimp only
  subst x3
  rcases Nat.eq_zero_or_pos (yk_ac w (yk_ds (yk_ok w (7 * i + j)) t 7 [s])).1 with h0 | h0
  · refine br_f (by decide) (br_t (by rw [h0]; decide) (br_t rfl (yy_two_ok hi hj ?_)))
    refine yy_search ha hw hs ht hst g4 g5 g6 (fun v' hv => ?_)
    obtain ⟨yo, yt, de', ke', sw', ev', aa', pa', tr', yl', ys', yv'⟩ := v'
    dsimp only
    have hv' := hv
    obtain ⟨_, _, _, y4, y5, y6, _, _, y9, _⟩ := hv'
    rw [← hfil] at y5
    exact ⟨y5.trans (if_pos h0), yk_rel_of ha hw hs ht hst hu hv⟩
  · refine br_f (by decide) (br_f (nI_nle h0 (by omega)) (br_f (by decide) (yy_two_ok hi hj ?_)))
    refine yy_search ha hw hs ht hst g4 g5 g6 (fun v' hv => ?_)
    obtain ⟨yo, yt, de', ke', sw', ev', aa', pa', tr', yl', ys', yv'⟩ := v'
    dsimp only
    have hv' := hv
    obtain ⟨_, _, _, y4, y5, y6, _, _, y9, _⟩ := hv'
    rw [← hfil] at y5
    exact ⟨(y5.trans (if_neg (by omega))).trans (x8 0 h0).1.symm, yk_rel_of ha hw hs ht hst hu hv⟩
