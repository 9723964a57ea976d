/-! The two searches, each against the list of all paths. -/
theorem yk_vt1 {s : Nat} (hs : s < 7) : yk_vt [s] := by
  refine ⟨List.nodup_cons.mpr ⟨by simp, List.nodup_nil⟩, fun x hx => ?_⟩
  rw [List.mem_singleton.mp hx]
  exact hs
theorem yk_cn1 {s : Nat} (hs : s < 7) : yk_cn [s] 7 ≤ 6 := by
  have h := yk_cn_all (yk_vt1 hs)
  have e : [s].length = 1 := rfl
  omega
theorem yk_co7 : yk_co 7 = 15656 := by decide +kernel

theorem yx_rank {post : SX → Prop} {so ta ra oe la ot : Int32} {aw al az av tv tl nt : Nat → Int32} {w : Nat → Nat} {a : Nat → Int32} {s t : Nat} {fI : Int32} {fb : Nat} (ha : ∀ c, a c = nI (w c)) (hw : ∀ c, w c ≤ 50) (hs : s < 7) (ht : t < 7) (hst : s ≠ t)
    (hfb : ∀ c, c < 49 → (nI c = fI ↔ c = fb)) (h1 : so = nI s) (h2 : ta = nI t) (h7 : aw = a)
    (H : ∀ u, yx_J w a s t [] (yk_ds (yk_ok w fb) t 7 [s]) u → post u) : wpX_rankPaths post (so, ta, ra, oe, la, ot, aw, al, az, av, tv, tl, nt) fI := by
  unfold wpX_rankPaths
  dsimp only
  refine yx_stepTo (m := 0) (by omega) (by decide) ?_
  dsimp only
  have hJ : yx_J w a s t [s] [] (so, ta, 0, 127, nI 0, 0 ||| yk_si so, aw, al, az, av, upd tv 0 so, upd tl 0 0, upd nt 0 0) := by
    refine ⟨h1, h2, rfl, rfl, (nI_pred 0).symm, by rw [h1]; rfl, h7, fun k hk => absurd hk (Nat.not_lt_zero k), ⟨pk_us.trans h1, True.intro⟩, ⟨pk_us, True.intro⟩, fun q hq => absurd hq (List.not_mem_nil)⟩
  have hco := yk_co7
  obtain ⟨s', c, b1, b2, b3, b4⟩ := yk_dfs (yx_r1 post w a s t fI) (yx_r2 post s t ha hw hfb) (yx_r3 post s t ht ha hw hfb) (yx_r4 post s t ha hw hfb) 6 s [] (yk_vt1 hs) hst (yk_cn1 hs) _ 0 [] hJ (show upd nt 0 0 0 = nI 0 from pk_us) (by rw [List.nil_append]; exact yk_ds_pw 7 [s]) (by rw [hco]; omega)
  rw [List.nil_append] at b1
  rw [hco] at b3
  refine ⟨1 + c, b4 1 ?_⟩
  have hH := H s' b1
  obtain ⟨so, ta, ra, oe, la, ot, aw, al, az, av, tv, tl, nt⟩ := s'
  obtain ⟨_, _, _, _, h5, _⟩ := b1
  show wX_rankPaths_32 post fI 1 (nI (0 + c)) so ta ra oe la ot aw al az av tv tl nt
  rw [wX_rankPaths_32]
  dsimp only
  refine br_f (nI_ge (a := 0 + c) (b := 1000000) (by omega) (by omega)) (br_t ?_ hH)
  rw [h5]
  decide

theorem yy_search {post : SY → Prop} {so ta de ke sw ev : Int32} {aa pa tr yl ys yv : Nat → Int32} {w : Nat → Nat} {a : Nat → Int32} {s t : Nat} {u v : Int32} (ha : ∀ c, a c = nI (w c)) (hw : ∀ c, w c ≤ 50) (hs : s < 7) (ht : t < 7) (hst : s ≠ t)
    (h1 : so = nI s) (h2 : ta = nI t) (h7 : aa = a)
    (H : ∀ y, yy_J w a s t u v [] (yk_ds (yk_ok w 49) t 7 [s]) y → post y) : wpY_search post (so, ta, de, ke, sw, ev, aa, pa, tr, yl, ys, yv) u v := by
  unfold wpY_search
  dsimp only
  refine nm_e (nm_e ?_)
  have hJ : yy_J w a s t u v [s] [] (so, ta, 1, 0, -2, 127, aa, upd pa 0 so, upd tr 1 0, yl, ys, yv) := by
    refine ⟨h1, h2, rfl, rfl, rfl, rfl, h7, ⟨pk_us.trans h1, True.intro⟩, fun k hk => absurd hk (Nat.not_lt_zero k), fun q hq => absurd hq (List.not_mem_nil)⟩
  have hco := yk_co7
  obtain ⟨s', c, b1, b2, b3, b4⟩ := yk_dfs (yy_r1 post w a s t ht u v) (yy_r2 post s t ht u v ha hw) (yy_r3 post s t ht u v ha hw) (yy_r4 post s t ht u v ha hw) 6 s [] (yk_vt1 hs) hst (yk_cn1 hs) _ 0 [] hJ (show upd tr 1 0 1 = nI 0 from pk_us) (by rw [List.nil_append]; exact yk_ds_pw 7 [s]) (by rw [hco]; omega)
  rw [List.nil_append] at b1
  rw [hco] at b3
  refine ⟨1 + c, b4 1 ?_⟩
  have hH := H s' b1
  obtain ⟨so, ta, de, ke, sw, ev, aa, pa, tr, yl, ys, yv⟩ := s'
  obtain ⟨_, _, h5, _⟩ := b1
  show wY_search_41 post u v 1 (nI (0 + c)) so ta de ke sw ev aa pa tr yl ys yv
  rw [wY_search_41]
  dsimp only
  refine br_f (nI_ge (a := 0 + c) (b := 20000) (by omega) (by omega)) (br_t ?_ hH)
  rw [h5]
  decide

theorem yx_ps_9 {post : Int32 → Prop} {so ta ra oe la ot : Int32} {aw al az av tv tl nt : Nat → Int32} {k m : Nat} {u v : Int32} (hk : k < 12) (hm : m ≤ 7) (hz : az k = nI m) :
    ∀ l a i, yk_fw (a :: l) (fun i => av (7 * k + i)) i → i + 1 + l.length = m → post (if yk_pf u v a l = true then 1 else 0) → ∀ f, l.length < f → wX_passes_9 post (nI k) u v (nI (7 * k)) so ta ra oe la ot aw al az av tv tl nt f (nI (i + 1)) := by
  intro l
  induction l with
  | nil =>
    intro a i _ hi h f hf
    obtain ⟨f, rfl⟩ : ∃ g, f = g + 1 := ⟨f - 1, by omega⟩
    rw [List.length_nil] at hi
    rw [wX_passes_9]
    dsimp only
    rw [nI_clamp (show k < 2 ^ 31 by omega), hz]
    exact ⟨vp_in_nI hk (by omega), br_t (nI_le (by omega) (by omega)) h⟩
  | cons b l ih =>
    intro a i hf1 hi h f hf
    rw [List.length_cons] at hi hf
    obtain ⟨f, rfl⟩ : ∃ g, f = g + 1 := ⟨f - 1, by omega⟩
    have hn : (yk_pf u v a (b :: l) = yk_pf u v b l) → wX_passes_9 post (nI k) u v (nI (7 * k)) so ta ra oe la ot aw al az av tv tl nt f (nI (i + 1 + 1)) := by
      intro e
      rw [e] at h
      exact ih b (i + 1) hf1.2 (by omega) h f (by omega)
    have g1 : av (7 * k + i) = nI a := hf1.1
    have g2 : av (7 * k + (i + 1)) = nI b := hf1.2.1
    rw [wX_passes_9]
    dsimp only
    have e1 : nI (7 * k) + nI (i + 1) = nI (7 * k + i + 1) := nI_add _ _
    rw [nI_clamp (show k < 2 ^ 31 by omega), hz, e1, nI_pred, nI_clamp (show 7 * k + i < 2 ^ 31 by omega), nI_clamp (show 7 * k + i + 1 < 2 ^ 31 by omega), g1, Nat.add_assoc, g2]
    refine ⟨vp_in_nI hk (by omega), br_f (nI_ge (by omega) (by omega)) ⟨vp_in_nI (by omega) (by omega), br_c (fun c => ⟨vp_in_nI (by omega) (by omega), br_c (fun c2 => ?_) (fun c2 => nm_r (nI_1 (i + 1)) (hn ?_))⟩) (fun c => nm_r (nI_1 (i + 1)) (hn ?_))⟩⟩
    · rw [if_pos (by rw [yk_pf, decide_eq_true c, decide_eq_true c2]; rfl)] at h
      exact h
    · rw [yk_pf, decide_eq_false c2, Bool.and_false, Bool.false_or]
    · rw [yk_pf, decide_eq_false c, Bool.false_and, Bool.false_or]

theorem yx_pass {post : Int32 → Prop} {so ta ra oe la ot : Int32} {aw al az av tv tl nt : Nat → Int32} {k : Nat} {u v : Int32} {q : List Nat} (hk : k < 12) (hs : yk_sk q (fun i => av (7 * k + i))) (hz : az k = nI q.length) (hq : q.length ≤ 7)
    (h : post (if yk_pg u v q.reverse = true then 1 else 0)) : wpX_passes post (so, ta, ra, oe, la, ot, aw, al, az, av, tv, tl, nt) (nI k) u v := by
  have e : nI k * 7 = nI (7 * k) := by rw [Nat.mul_comm 7]; exact pk_mul k 7
  have hf := yk_fw_sk hs
  have hlen : q.reverse.length = q.length := List.length_reverse
  unfold wpX_passes
  dsimp only
  cases he : q.reverse with
  | nil =>
    rw [he] at h hlen
    rw [List.length_nil] at hlen
    refine nm_r e ⟨1, ?_⟩
    rw [wX_passes_9]
    dsimp only
    rw [nI_clamp (show k < 2 ^ 31 by omega), hz]
    exact ⟨vp_in_nI hk (by omega), br_t (nI_le (b := 1) (by omega) (by omega)) h⟩
  | cons a l =>
    rw [he] at hf h hlen
    rw [List.length_cons] at hlen
    exact nm_r e ⟨l.length + 1, yx_ps_9 hk hq hz l a 0 hf (by omega) h _ (by omega)⟩

theorem yy_kp_3 {post : Int32 → Prop} {so ta de ke sw ev : Int32} {aa pa tr yl ys yv : Nat → Int32} {k m : Nat} {u v : Int32} (hk : k < 13) (hm : m ≤ 7) (hz : ys k = nI m) :
    ∀ l a i, yk_fw (a :: l) (fun i => yv (7 * k + i)) i → i + 1 + l.length = m → post (if yk_pf u v a l = true then 1 else 0) → ∀ f, l.length < f → wY_keptPasses_3 post (nI k) u v so ta de ke sw ev aa pa tr yl ys yv f (nI (i + 1)) := by
  intro l
  induction l with
  | nil =>
    intro a i _ hi h f hf
    obtain ⟨f, rfl⟩ : ∃ g, f = g + 1 := ⟨f - 1, by omega⟩
    rw [List.length_nil] at hi
    rw [wY_keptPasses_3]
    dsimp only
    rw [nI_clamp (show k < 2 ^ 31 by omega), hz]
    exact ⟨vp_in_nI hk (by omega), br_t (nI_le (by omega) (by omega)) h⟩
  | cons b l ih =>
    intro a i hf1 hi h f hf
    rw [List.length_cons] at hi hf
    obtain ⟨f, rfl⟩ : ∃ g, f = g + 1 := ⟨f - 1, by omega⟩
    have hn : (yk_pf u v a (b :: l) = yk_pf u v b l) → wY_keptPasses_3 post (nI k) u v so ta de ke sw ev aa pa tr yl ys yv f (nI (i + 1 + 1)) := by
      intro e
      rw [e] at h
      exact ih b (i + 1) hf1.2 (by omega) h f (by omega)
    have g1 : yv (7 * k + i) = nI a := hf1.1
    have g2 : yv (7 * k + (i + 1)) = nI b := hf1.2.1
    rw [wY_keptPasses_3]
    dsimp only
    have e1 : 7 * nI k + nI (i + 1) = nI (7 * k + i + 1) := yy_7 k (i + 1)
    rw [nI_clamp (show k < 2 ^ 31 by omega), hz, e1, nI_pred, nI_clamp (show 7 * k + i < 2 ^ 31 by omega), nI_clamp (show 7 * k + i + 1 < 2 ^ 31 by omega), g1, Nat.add_assoc, g2]
    refine ⟨vp_in_nI hk (by omega), br_f (nI_ge (by omega) (by omega)) ⟨vp_in_nI (by omega) (by omega), br_c (fun c => ⟨vp_in_nI (by omega) (by omega), br_c (fun c2 => ?_) (fun c2 => nm_r (nI_1 (i + 1)) (hn ?_))⟩) (fun c => nm_r (nI_1 (i + 1)) (hn ?_))⟩⟩
    · rw [if_pos (by rw [yk_pf, decide_eq_true c, decide_eq_true c2]; rfl)] at h
      exact h
    · rw [yk_pf, decide_eq_false c2, Bool.and_false, Bool.false_or]
    · rw [yk_pf, decide_eq_false c, Bool.false_and, Bool.false_or]

theorem yy_kp {post : Int32 → Prop} {so ta de ke sw ev : Int32} {aa pa tr yl ys yv : Nat → Int32} {k : Nat} {u v : Int32} {q : List Nat} (hk : k < 13) (hs : yk_sk q (fun i => yv (7 * k + i))) (hz : ys k = nI q.length) (hq : q.length ≤ 7)
    (h : post (if yk_pg u v q.reverse = true then 1 else 0)) : wpY_keptPasses post (so, ta, de, ke, sw, ev, aa, pa, tr, yl, ys, yv) (nI k) u v := by
  have hf := yk_fw_sk hs
  have hlen : q.reverse.length = q.length := List.length_reverse
  unfold wpY_keptPasses
  dsimp only
  cases he : q.reverse with
  | nil =>
    rw [he] at h hlen
    rw [List.length_nil] at hlen
    refine ⟨1, ?_⟩
    rw [wY_keptPasses_3]
    dsimp only
    rw [nI_clamp (show k < 2 ^ 31 by omega), hz]
    exact ⟨vp_in_nI hk (by omega), br_t (nI_le (b := 1) (by omega) (by omega)) h⟩
  | cons a l =>
    rw [he] at hf h hlen
    rw [List.length_cons] at hlen
    exact ⟨l.length + 1, yy_kp_3 hk hq hz l a 0 hf (by omega) h _ (by omega)⟩

/-- how many of the first n pass the arc -/
def yk_ct (u v : Int32) (T : Nat → List Nat) : Nat → Nat
  | 0 => 0
  | n + 1 => if yk_pg u v (T n).reverse = true then yk_ct u v T n + 1 else yk_ct u v T n

theorem yx_passing_20 {post : Int32 → SX → Prop} {so ta ra oe la ot : Int32} {aw al az av tv tl nt : Nat → Int32} {w : Nat → Nat} {A : Nat × (Nat → List Nat)} {u v : Int32} (hn : A.1 ≤ 12) (hra : ra = nI A.1) (hT : yk_tb w A al az av) (h7 : ∀ k, k < A.1 → (A.2 k).length ≤ 7)
    (h : post (nI (yk_ct u v A.2 A.1)) (so, ta, ra, oe, la, ot, aw, al, az, av, tv, tl, nt)) : ∀ d k, k + d = A.1 → ∀ f, d < f → wX_passing_20 post u v so ta ra oe la ot aw al az av tv tl nt f (nI (yk_ct u v A.2 k)) (nI k) := by
  intro d
  induction d with
  | zero =>
    intro k hk f hf
    obtain ⟨f, rfl⟩ : ∃ g, f = g + 1 := ⟨f - 1, by omega⟩
    have e : k = A.1 := by omega
    rw [wX_passing_20]
    dsimp only
    refine br_t (by rw [hra]; exact nI_le (by omega) (by omega)) ?_
    rw [e]
    exact h
  | succ d ih =>
    intro k hk f hf
    obtain ⟨f, rfl⟩ : ∃ g, f = g + 1 := ⟨f - 1, by omega⟩
    have h2 := ih (k + 1) (by omega) f (by omega)
    obtain ⟨t1, t2, t3⟩ := hT k (by omega)
    rw [wX_passing_20]
    dsimp only
    refine br_f (by rw [hra]; exact nI_ge (by omega) (by omega)) ?_
    refine yx_pass (by omega) t3 t2 (h7 k (by omega)) ?_
    rw [yk_ct] at h2
    cases hp : yk_pg u v (A.2 k).reverse with
    | true =>
      rw [hp, if_pos rfl] at h2
      exact br_f (by decide) (nm_r (nI_1 _) (nm_r (nI_1 k) h2))
    | false =>
      rw [hp, if_neg (by decide)] at h2
      exact br_t rfl (nm_r (nI_1 k) h2)

theorem yy_passing_29 {post : Int32 → SY → Prop} {so ta de ke sw ev : Int32} {aa pa tr yl ys yv : Nat → Int32} {w : Nat → Nat} {A : Nat × (Nat → List Nat)} {u v : Int32} (hn : A.1 ≤ 12) (hra : ke = nI A.1) (hT : yk_tb w A yl ys yv) (h7 : ∀ k, k < A.1 → (A.2 k).length ≤ 7)
    (h : post (nI (yk_ct u v A.2 A.1)) (so, ta, de, ke, sw, ev, aa, pa, tr, yl, ys, yv)) : ∀ d k, k + d = A.1 → ∀ f, d < f → wY_passing_29 post u v so ta de ke sw ev aa pa tr yl ys yv f (nI (yk_ct u v A.2 k)) (nI k) := by
  intro d
  induction d with
  | zero =>
    intro k hk f hf
    obtain ⟨f, rfl⟩ : ∃ g, f = g + 1 := ⟨f - 1, by omega⟩
    have e : k = A.1 := by omega
    rw [wY_passing_29]
    dsimp only
    refine br_t (by rw [hra]; exact nI_le (by omega) (by omega)) ?_
    rw [e]
    exact h
  | succ d ih =>
    intro k hk f hf
    obtain ⟨f, rfl⟩ : ∃ g, f = g + 1 := ⟨f - 1, by omega⟩
    have h2 := ih (k + 1) (by omega) f (by omega)
    obtain ⟨t1, t2, t3⟩ := hT k (by omega)
    rw [wY_passing_29]
    dsimp only
    refine br_f (by rw [hra]; exact nI_ge (by omega) (by omega)) ?_
    refine yy_kp (by omega) t3 t2 (h7 k (by omega)) ?_
    rw [yk_ct] at h2
    cases hp : yk_pg u v (A.2 k).reverse with
    | true =>
      rw [hp, if_pos rfl] at h2
      exact br_f (by decide) (nm_r (nI_1 _) (nm_r (nI_1 k) h2))
    | false =>
      rw [hp, if_neg (by decide)] at h2
      exact br_t rfl (nm_r (nI_1 k) h2)

/-- two arrays that spell the same trail agree on it -/
theorem yk_sk_eq : ∀ {p : List Nat} {g g' : Nat → Int32}, yk_sk p g → yk_sk p g' → ∀ i, i < p.length → g i = g' i := by
  intro p
  induction p with
  | nil => intro g g' _ _ i hi; exact absurd hi (Nat.not_lt_zero i)
  | cons v r ih =>
    intro g g' h h' i hi
    rw [List.length_cons] at hi
    by_cases e : i = r.length
    · rw [e]; exact h.1.trans h'.1.symm
    · exact ih h.2 h'.2 i (by omega)
