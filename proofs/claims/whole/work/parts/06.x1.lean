/-! The component's small methods, each with its exact end. -/
def yk_si (v : Int32) : Int32 := (1 : Int32) <<< (v &&& 31)
theorem yx_stepTo {post : SX → Prop} {so ta ra oe la ot : Int32} {aw al az av tv tl nt : Nat → Int32} {v l : Int32} {m : Nat} (hm : m < 7) (hl : la + 1 = nI m)
    (h : post (so, ta, ra, oe, nI m, ot ||| yk_si v, aw, al, az, av, upd tv m v, upd tl m l, upd nt m 0)) : wpX_stepTo post (so, ta, ra, oe, la, ot, aw, al, az, av, tv, tl, nt) v l := by
  unfold wpX_stepTo
  dsimp only
  refine nm_r hl ?_
  rw [nI_clamp (show m < 2 ^ 31 by omega)]
  have hi := vp_in_nI (N := 7) hm (by omega)
  exact ⟨hi, nm_e ⟨hi, nm_e ⟨hi, nm_e (nm_e h)⟩⟩⟩

theorem yx_stepBack {post : SX → Prop} {so ta ra oe la ot : Int32} {aw al az av tv tl nt : Nat → Int32} {m v : Nat} (hm : m < 7) (hl : la = nI m) (hv : tv m = nI v)
    (h : post (so, ta, ra, oe, nI m - 1, ot &&& (yk_sh v ^^^ (-1)), aw, al, az, av, tv, tl, nt)) : wpX_stepBack post (so, ta, ra, oe, la, ot, aw, al, az, av, tv, tl, nt) := by
  subst hl
  unfold wpX_stepBack
  dsimp only
  rw [nI_clamp (show m < 2 ^ 31 by omega), hv]
  exact ⟨vp_in_nI hm (by omega), nm_e (nm_e h)⟩

theorem yx_rankOf_5 {post : Int32 → Prop} {so ta ra oe la ot : Int32} {aw al az av tv tl nt : Nat → Int32} {w : Nat → Nat} {T : Nat → List Nat} {l : Nat} (hl : l < 2 ^ 31) :
    ∀ n, n ≤ 12 → (∀ k, k < n → al k = nI (yk_ln w (T k))) → (∀ k, k < n → yk_ln w (T k) < 2 ^ 31) → post (nI (yk_rk w T l n)) →
      ∀ f, n < f → wX_rankOf_5 post (nI l) so ta ra oe la ot aw al az av tv tl nt f (nI n) := by
  intro n
  induction n with
  | zero =>
    intro _ _ _ h f hf
    obtain ⟨f, rfl⟩ : ∃ g, f = g + 1 := ⟨f - 1, by omega⟩
    exact br_t (by decide) h
  | succ n ih =>
    intro h12 ha hb h f hf
    obtain ⟨f, rfl⟩ : ∃ g, f = g + 1 := ⟨f - 1, by omega⟩
    rw [wX_rankOf_5]
    dsimp only
    refine br_f (nI_nle (by omega) (by omega)) ?_
    rw [nI_pred, nI_clamp (show n < 2 ^ 31 by omega), ha n (by omega)]
    refine ⟨vp_in_nI (by omega) (by omega), ?_⟩
    rw [yk_rk] at h
    refine pk_le (yk_ln w (T n)) l (fun c => ?_) (fun c => ?_) rfl rfl (hb n (by omega)) hl
    · rw [if_neg (by omega)] at h
      exact h
    · rw [if_pos c] at h
      refine nm_r (pk_m1 n) ?_
      exact ih (by omega) (fun k hk => ha k (by omega)) (fun k hk => hb k (by omega)) h f (by omega)

theorem yx_copy_35 {post : SX → Prop} {so ta ra oe la ot : Int32} {aw al az av tv tl nt : Nat → Int32} {k : Nat} (hk : k + 1 < 12) (h : post (so, ta, ra, oe, la, ot, aw, al, az, yk_cp (k + 1) 7 av, tv, tl, nt)) :
    ∀ d i, i + d = 7 → ∀ f, d < f → wX_copyFromRankBefore_35 post (nI (7 * (k + 1))) so ta ra oe la ot f (nI i) aw al az (yk_cp (k + 1) i av) tv tl nt := by
  intro d
  induction d with
  | zero =>
    intro i hi f hf
    obtain ⟨f, rfl⟩ : ∃ g, f = g + 1 := ⟨f - 1, by omega⟩
    have e : i = 7 := by omega
    subst e
    exact br_t (by decide) h
  | succ d ih =>
    intro i hi f hf
    obtain ⟨f, rfl⟩ : ∃ g, f = g + 1 := ⟨f - 1, by omega⟩
    rw [wX_copyFromRankBefore_35]
    dsimp only
    refine br_f (nI_ge (a := i) (b := 7) (by omega) (by omega)) ?_
    have e1 : nI (7 * (k + 1)) + nI i = nI (7 * (k + 1) + i) := nI_add _ _
    have e2 : nI (7 * (k + 1) + i) - 7 = nI (7 * (k + 1) + i - 7) := pk_sub (b := 7) (by omega)
    rw [e1, e2, nI_clamp (show 7 * (k + 1) + i - 7 < 2 ^ 31 by omega), nI_clamp (show 7 * (k + 1) + i < 2 ^ 31 by omega)]
    refine ⟨vp_in_nI (by omega) (by omega), vp_in_nI (by omega) (by omega), ?_⟩
    rw [yk_cp_r av (show 7 * (k + 1) + i - 7 < 7 * (k + 1) by omega), yk_cp_s]
    exact nm_e (nm_r (nI_1 i) (ih (i + 1) (by omega) f (by omega)))

theorem yx_copy {post : SX → Prop} {so ta ra oe la ot : Int32} {aw al az av tv tl nt : Nat → Int32} {k : Nat} (hk : k + 1 < 12) (h : post (so, ta, ra, oe, la, ot, aw, upd al (k + 1) (al k), upd az (k + 1) (az k), yk_cp (k + 1) 7 av, tv, tl, nt)) :
    wpX_copyFromRankBefore post (so, ta, ra, oe, la, ot, aw, al, az, av, tv, tl, nt) (nI (k + 1)) := by
  unfold wpX_copyFromRankBefore
  dsimp only
  rw [nI_pred, nI_clamp (show k < 2 ^ 31 by omega), nI_clamp (show k + 1 < 2 ^ 31 by omega)]
  have i1 : vp_in (nI k) 12 := vp_in_nI (by omega) (by omega)
  have i2 : vp_in (nI (k + 1)) 12 := vp_in_nI (by omega) (by omega)
  have e : nI (k + 1) * 7 = nI (7 * (k + 1)) := by rw [Nat.mul_comm 7]; exact pk_mul (k + 1) 7
  have h8 := yx_copy_35 (al := upd al (k + 1) (al k)) (az := upd az (k + 1) (az k)) hk h 7 0 rfl 8 (by omega)
  rw [yk_cp_0] at h8
  exact ⟨i1, i2, nm_e ⟨i1, i2, nm_e (nm_r e ⟨8, h8⟩)⟩⟩

theorem yx_place_34 {post : SX → Prop} {so ta ra oe la ot : Int32} {aw al az av tv tl nt : Nat → Int32} {r j : Nat} (hr : r < 12) (hj : j < 7) (hla : la = nI j) (h : post (so, ta, ra, oe, la, ot, aw, al, az, yk_pl r (j + 1) tv av, tv, tl, nt)) :
    ∀ d i, i + d = j + 1 → ∀ f, d < f → wX_placeTrail_34 post (nI (7 * r)) so ta ra oe la ot f (nI i) aw al az (yk_pl r i tv av) tv tl nt := by
  subst hla
  intro d
  induction d with
  | zero =>
    intro i hi f hf
    obtain ⟨f, rfl⟩ : ∃ g, f = g + 1 := ⟨f - 1, by omega⟩
    have e : i = j + 1 := by omega
    subst e
    exact br_t (nI_lt (by omega) (by omega)) h
  | succ d ih =>
    intro i hi f hf
    obtain ⟨f, rfl⟩ : ∃ g, f = g + 1 := ⟨f - 1, by omega⟩
    rw [wX_placeTrail_34]
    dsimp only
    refine br_f (nI_nlt (by omega) (by omega)) ?_
    have e1 : nI (7 * r) + nI i = nI (7 * r + i) := nI_add _ _
    rw [e1, nI_clamp (show i < 2 ^ 31 by omega), nI_clamp (show 7 * r + i < 2 ^ 31 by omega), yk_pl_s]
    exact ⟨vp_in_nI (by omega) (by omega), vp_in_nI (by omega) (by omega), nm_e (nm_r (nI_1 i) (ih (i + 1) (by omega) f (by omega)))⟩

theorem yx_place {post : SX → Prop} {so ta ra oe la ot : Int32} {aw al az av tv tl nt : Nat → Int32} {r j : Nat} (hr : r < 12) (hj : j < 7) (hla : la = nI j)
    (h : post (so, ta, ra, oe, la, ot, aw, upd al r (tl j), upd az r (nI (j + 1)), yk_pl r (j + 1) tv av, tv, tl, nt)) : wpX_placeTrail post (so, ta, ra, oe, la, ot, aw, al, az, av, tv, tl, nt) (nI r) := by
  have h8 := yx_place_34 (al := upd al r (tl j)) (az := upd az r (nI (j + 1))) hr hj hla h (j + 1) 0 (by omega) (j + 2) (by omega)
  rw [yk_pl_0] at h8
  subst hla
  unfold wpX_placeTrail
  dsimp only
  rw [nI_clamp (show j < 2 ^ 31 by omega), nI_clamp (show r < 2 ^ 31 by omega), nI_1]
  have i2 : vp_in (nI r) 12 := vp_in_nI (by omega) (by omega)
  have e : nI r * 7 = nI (7 * r) := by rw [Nat.mul_comm 7]; exact pk_mul r 7
  exact ⟨vp_in_nI hj (by omega), i2, nm_e ⟨i2, nm_e (nm_r e ⟨_, h8⟩)⟩⟩

theorem yx_note_60 {post : SX → Prop} {so ta ra oe la ot : Int32} {aw al az av tv tl nt : Nat → Int32} {r m j : Nat} (hr : r < 12) (hm : m ≤ 12) (hj : j < 7) (hla : la = nI j)
    (h : post (so, ta, ra, oe, la, ot, aw, upd (yk_s1 r m al) r (tl j), upd (yk_s1 r m az) r (nI (j + 1)), yk_pl r (j + 1) tv (yk_s7 r m av), tv, tl, nt)) :
    ∀ d c, c = r + d → c < m → ∀ f, d < f → wX_notePath_60 post (nI r) f (nI c) so ta ra oe la ot aw (yk_s1 c m al) (yk_s1 c m az) (yk_s7 c m av) tv tl nt := by
  intro d
  induction d with
  | zero =>
    intro c hc hcm f hf
    obtain ⟨f, rfl⟩ : ∃ g, f = g + 1 := ⟨f - 1, by omega⟩
    have e : c = r := by omega
    subst e
    rw [wX_notePath_60]
    dsimp only
    refine br_t (nI_le (by omega) (by omega)) ?_
    exact yx_place hr hj hla h
  | succ d ih =>
    intro c hc hcm f hf
    obtain ⟨f, rfl⟩ : ∃ g, f = g + 1 := ⟨f - 1, by omega⟩
    obtain ⟨c, rfl⟩ : ∃ g, c = g + 1 := ⟨c - 1, by omega⟩
    rw [wX_notePath_60]
    dsimp only
    refine br_f (nI_ge (by omega) (by omega)) ?_
    refine yx_copy (by omega) ?_
    dsimp only
    rw [yk_s1_r al (show c ≤ c + 1 by omega), yk_s1_r az (show c ≤ c + 1 by omega), yk_s1_s al (by omega), yk_s1_s az (by omega), yk_s7_s av (by omega)]
    exact nm_r (pk_m1 c) (ih c (by omega) (by omega) f (by omega))

/-- what a noted path leaves -/
theorem yx_noteE {so ta ra oe la ot : Int32} {aw al az av tv tl nt : Nat → Int32} {w : Nat → Nat} {A : Nat × (Nat → List Nat)} {p : List Nat} {j : Nat} (hj : j < 7) (hp : p.length = j + 1) (hla : la = nI j) (hra : ra = nI A.1) (h12 : A.1 ≤ 12)
    (htl : tl j = nI (yk_ln w p)) (hl : yk_ln w p < 2 ^ 31) (hT : yk_tb w A al az av) (hb : ∀ k, k < A.1 → yk_ln w (A.2 k) < 2 ^ 31) (h7 : ∀ k, k < A.1 → (A.2 k).length ≤ 7) (hs : yk_sk p tv) :
    ∃ al' az' av', yk_tb w (yk_ad w A p) al' az' av' ∧ ∀ post : SX → Prop, post (so, ta, nI (yk_ad w A p).1, oe &&& ot, la, ot, aw, al', az', av', tv, tl, nt) → wpX_notePath post (so, ta, ra, oe, la, ot, aw, al, az, av, tv, tl, nt) := by
  subst hla hra
  have hrn := yk_rk_le w A.2 (yk_ln w p) A.1
  have hn1 := yk_ad_1 w A p
  generalize hr : yk_rk w A.2 (yk_ln w p) A.1 = r at hrn
  by_cases c : r = 12
  · subst c
    refine ⟨al, az, av, yk_tb_stay hT h7 h12 hr.symm, fun post h1 => ?_⟩
    have e : (yk_ad w A p).1 = A.1 := by rw [hn1, if_neg (by omega)]
    rw [e] at h1
    unfold wpX_notePath
    dsimp only
    refine nm_e ⟨vp_in_nI hj (by omega), ?_⟩
    rw [nI_clamp (show j < 2 ^ 31 by omega), htl]
    unfold wpX_rankOf
    dsimp only
    refine ⟨A.1 + 1, yx_rankOf_5 (w := w) (T := A.2) hl A.1 h12 (fun k hk => (hT k hk).1) hb ?_ (A.1 + 1) (by omega)⟩
    rw [hr]
    exact br_t rfl h1
  · by_cases c2 : 12 ≤ A.1
    · refine ⟨_, _, _, yk_tb_put hT h7 (by omega) h12 r A.1 hr.symm (by rw [hn1]; split <;> omega) hs, fun post h1 => ?_⟩
      have e : (yk_ad w A p).1 = A.1 := by rw [hn1, if_neg (by omega)]
      rw [e, hp, ← htl] at h1
      obtain ⟨n, hn⟩ : ∃ n, A.1 = n + 1 := ⟨A.1 - 1, by omega⟩
      have h2 := yx_note_60 (r := r) (m := A.1) (j := j) (al := al) (az := az) (av := av) (by omega) (by omega) hj rfl h1 (n - r) n (by omega) (by omega) (n - r + 1) (by omega)
      rw [yk_s1_t al (by omega), yk_s1_t az (by omega), yk_s7_t av (by omega)] at h2
      unfold wpX_notePath
      dsimp only
      refine nm_e ⟨vp_in_nI hj (by omega), ?_⟩
      rw [nI_clamp (show j < 2 ^ 31 by omega), htl]
      unfold wpX_rankOf
      dsimp only
      refine ⟨A.1 + 1, yx_rankOf_5 (w := w) (T := A.2) hl A.1 h12 (fun k hk => (hT k hk).1) hb ?_ (A.1 + 1) (by omega)⟩
      rw [hr]
      refine br_f (fun z => c ((nI_eq (b := 12) (by omega) (by omega)).mp z)) (br_t (nI_le (a := 12) c2 (by omega)) ?_)
      exact nm_r (show nI A.1 - 1 = nI n by rw [hn]; exact nI_pred n) ⟨_, h2⟩
    · refine ⟨_, _, _, yk_tb_put hT h7 (by omega) h12 r (A.1 + 1) hr.symm (by rw [hn1]; split <;> omega) hs, fun post h1 => ?_⟩
      have e : (yk_ad w A p).1 = A.1 + 1 := by rw [hn1, if_pos (by omega)]
      rw [e, hp, ← htl] at h1
      have h2 := yx_note_60 (r := r) (m := A.1 + 1) (j := j) (al := al) (az := az) (av := av) (by omega) (by omega) hj rfl h1 (A.1 - r) A.1 (by omega) (by omega) (A.1 - r + 1) (by omega)
      rw [yk_s1_t al (by omega), yk_s1_t az (by omega), yk_s7_t av (by omega)] at h2
      unfold wpX_notePath
      dsimp only
      refine nm_e ⟨vp_in_nI hj (by omega), ?_⟩
      rw [nI_clamp (show j < 2 ^ 31 by omega), htl]
      unfold wpX_rankOf
      dsimp only
      refine ⟨A.1 + 1, yx_rankOf_5 (w := w) (T := A.2) hl A.1 h12 (fun k hk => (hT k hk).1) hb ?_ (A.1 + 1) (by omega)⟩
      rw [hr]
      refine br_f (fun z => c ((nI_eq (b := 12) (by omega) (by omega)).mp z)) (br_f (nI_ge (b := 12) (by omega) (by omega)) ?_)
      exact nm_r (nI_1 A.1) (nm_r (nI_pred A.1) ⟨_, h2⟩)
