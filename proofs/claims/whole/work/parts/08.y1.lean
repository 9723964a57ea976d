/-! The reference's small methods. -/
theorem yy_onPath_2 {post : Int32 → Prop} {so ta de ke sw ev : Int32} {aa pa tr yl ys yv : Nat → Int32} {x m : Nat} (hx : x < 2 ^ 31) (hm : m ≤ 7) (hd : de = nI m) :
    ∀ l i, yk_fw l pa i → (∀ y, y ∈ l → y < 7) → i + l.length = m → post (if l.contains x = true then 1 else 0) → ∀ f, l.length < f → wY_onPath_2 post (nI x) so ta de ke sw ev aa pa tr yl ys yv f (nI i) := by
  subst hd
  intro l
  induction l with
  | nil =>
    intro i _ _ hi h f hf
    obtain ⟨f, rfl⟩ : ∃ g, f = g + 1 := ⟨f - 1, by omega⟩
    rw [List.length_nil] at hi
    exact br_t (nI_le (by omega) (by omega)) h
  | cons y l ih =>
    intro i hw hb hi h f hf
    rw [List.length_cons] at hi hf
    obtain ⟨f, rfl⟩ : ∃ g, f = g + 1 := ⟨f - 1, by omega⟩
    rw [wY_onPath_2]
    dsimp only
    refine br_f (nI_ge (by omega) (by omega)) ?_
    rw [nI_clamp (show i < 2 ^ 31 by omega), hw.1]
    refine ⟨vp_in_nI (by omega) (by omega), ?_⟩
    have hy := hb y (List.mem_cons_self ..)
    refine pk_eq y x (fun c => ?_) (fun c => ?_)
    · rw [if_pos (by rw [List.contains_cons, c]; simp)] at h
      exact h
    · have e : (y :: l).contains x = l.contains x := by
        rw [List.contains_cons, beq_eq_false_iff_ne.mpr (fun e => c e.symm), Bool.false_or]
      rw [e] at h
      exact nm_r (nI_1 i) (ih (i + 1) hw.2 (fun z hz => hb z (List.mem_cons_of_mem y hz)) (by omega) h f (by omega))

theorem yy_onPath {post : Int32 → Prop} {so ta de ke sw ev : Int32} {aa pa tr yl ys yv : Nat → Int32} {x : Nat} {p : List Nat} (hx : x < 2 ^ 31) (hs : yk_sk p pa) (h7 : ∀ y, y ∈ p → y < 7) (hl : p.length ≤ 7) (hd : de = nI p.length)
    (h : post (if p.contains x = true then 1 else 0)) : wpY_onPath post (so, ta, de, ke, sw, ev, aa, pa, tr, yl, ys, yv) (nI x) := by
  rw [← yk_cr] at h
  exact ⟨p.reverse.length + 1, yy_onPath_2 hx hl hd p.reverse 0 (yk_fw_sk hs) (fun y hy => h7 y (List.mem_reverse.mp hy)) (by rw [List.length_reverse]; omega) h _ (by omega)⟩

theorem yy_7 (a b : Nat) : 7 * nI a + nI b = nI (7 * a + b) := by
  rw [show (7 : Int32) * nI a = nI (7 * a) from pk_mul 7 a, nI_add]

theorem yy_len_4 {post : Int32 → Prop} {so ta de ke sw ev : Int32} {aa pa tr yl ys yv : Nat → Int32} {w : Nat → Nat} {m : Nat} (hw : ∀ c, aa c = nI (w c)) (hm : m ≤ 7) (hd : de = nI m) :
    ∀ l a i sum, yk_fw (a :: l) pa i → (∀ y, y ∈ a :: l → y < 7) → i + 1 + l.length = m → post (nI (sum + yk_lf w a l)) → ∀ f, l.length < f → wY_lengthOfPath_4 post so ta de ke sw ev aa pa tr yl ys yv f (nI sum) (nI (i + 1)) := by
  subst hd
  intro l
  induction l with
  | nil =>
    intro a i sum _ _ hi h f hf
    obtain ⟨f, rfl⟩ : ∃ g, f = g + 1 := ⟨f - 1, by omega⟩
    rw [List.length_nil] at hi
    exact br_t (nI_le (by omega) (by omega)) h
  | cons b l ih =>
    intro a i sum hf1 hb hi h f hf
    rw [List.length_cons] at hi hf
    obtain ⟨f, rfl⟩ : ∃ g, f = g + 1 := ⟨f - 1, by omega⟩
    have ha := hb a (List.mem_cons_self ..)
    have hb' := hb b (List.mem_cons_of_mem a (List.mem_cons_self ..))
    rw [wY_lengthOfPath_4]
    dsimp only
    refine br_f (nI_ge (by omega) (by omega)) ?_
    rw [nI_pred, nI_clamp (show i < 2 ^ 31 by omega), nI_clamp (show i + 1 < 2 ^ 31 by omega), hf1.1, hf1.2.1, yy_7, nI_clamp (show 7 * a + b < 2 ^ 31 by omega), hw]
    refine ⟨vp_in_nI (by omega) (by omega), vp_in_nI (by omega) (by omega), vp_in_nI (by omega) (by omega), ?_⟩
    rw [yk_lf, ← Nat.add_assoc] at h
    exact nm_r (nI_add _ _) (nm_r (nI_1 (i + 1)) (ih b (i + 1) _ hf1.2 (fun y hy => hb y (List.mem_cons_of_mem a hy)) (by omega) h f (by omega)))

theorem yy_len {post : Int32 → Prop} {so ta de ke sw ev : Int32} {aa pa tr yl ys yv : Nat → Int32} {w : Nat → Nat} {p : List Nat} (hw : ∀ c, aa c = nI (w c)) (hs : yk_sk p pa) (hp : p ≠ []) (h7 : ∀ y, y ∈ p → y < 7) (hl : p.length ≤ 7) (hd : de = nI p.length)
    (h : post (nI (yk_ln w p))) : wpY_lengthOfPath post (so, ta, de, ke, sw, ev, aa, pa, tr, yl, ys, yv) := by
  have hf := yk_fw_sk hs
  rw [← yk_lg_ln] at h
  have hlen : p.reverse.length = p.length := List.length_reverse
  have h7' : ∀ y, y ∈ p.reverse → y < 7 := fun y hy => h7 y (List.mem_reverse.mp hy)
  cases he : p.reverse with
  | nil => exact absurd (List.reverse_eq_nil_iff.mp he) hp
  | cons a l =>
    rw [he] at hf h hlen h7'
    rw [List.length_cons] at hlen
    have h2 : post (nI (0 + yk_lf w a l)) := by rw [Nat.zero_add]; exact h
    exact ⟨l.length + 1, yy_len_4 hw hl hd l a 0 0 hf h7' (by omega) h2 _ (by omega)⟩

theorem yy_pp_2 {post : Int32 → Prop} {so ta de ke sw ev : Int32} {aa pa tr yl ys yv : Nat → Int32} {m : Nat} {u v : Int32} (hm : m ≤ 7) (hd : de = nI m) :
    ∀ l a i, yk_fw (a :: l) pa i → i + 1 + l.length = m → post (if yk_pf u v a l = true then 1 else 0) → ∀ f, l.length < f → wY_pathPasses_2 post u v so ta de ke sw ev aa pa tr yl ys yv f (nI (i + 1)) := by
  subst hd
  intro l
  induction l with
  | nil =>
    intro a i _ hi h f hf
    obtain ⟨f, rfl⟩ : ∃ g, f = g + 1 := ⟨f - 1, by omega⟩
    rw [List.length_nil] at hi
    exact br_t (nI_le (by omega) (by omega)) h
  | cons b l ih =>
    intro a i hf1 hi h f hf
    rw [List.length_cons] at hi hf
    obtain ⟨f, rfl⟩ : ∃ g, f = g + 1 := ⟨f - 1, by omega⟩
    have hn : (yk_pf u v a (b :: l) = yk_pf u v b l) → wY_pathPasses_2 post u v so ta (nI m) ke sw ev aa pa tr yl ys yv f (nI (i + 1 + 1)) := by
      intro e
      rw [e] at h
      exact ih b (i + 1) hf1.2 (by omega) h f (by omega)
    rw [wY_pathPasses_2]
    dsimp only
    refine br_f (nI_ge (by omega) (by omega)) ?_
    rw [nI_pred, nI_clamp (show i < 2 ^ 31 by omega), nI_clamp (show i + 1 < 2 ^ 31 by omega), hf1.1, hf1.2.1]
    refine ⟨vp_in_nI (by omega) (by omega), br_c (fun c => ⟨vp_in_nI (by omega) (by omega), br_c (fun c2 => ?_) (fun c2 => nm_r (nI_1 (i + 1)) (hn ?_))⟩) (fun c => nm_r (nI_1 (i + 1)) (hn ?_))⟩
    · rw [if_pos (by rw [yk_pf, decide_eq_true c, decide_eq_true c2]; rfl)] at h
      exact h
    · rw [yk_pf, decide_eq_false c2, Bool.and_false, Bool.false_or]
    · rw [yk_pf, decide_eq_false c, Bool.false_and, Bool.false_or]

theorem yy_pp {post : Int32 → Prop} {so ta de ke sw ev : Int32} {aa pa tr yl ys yv : Nat → Int32} {u v : Int32} {p : List Nat} (hs : yk_sk p pa) (hp : p ≠ []) (hl : p.length ≤ 7) (hd : de = nI p.length)
    (h : post (if yk_ps u v p = true then 1 else 0)) : wpY_pathPasses post (so, ta, de, ke, sw, ev, aa, pa, tr, yl, ys, yv) u v := by
  have hf := yk_fw_sk hs
  rw [← yk_pg_ps] at h
  have hlen : p.reverse.length = p.length := List.length_reverse
  cases he : p.reverse with
  | nil => exact absurd (List.reverse_eq_nil_iff.mp he) hp
  | cons a l =>
    rw [he] at hf h hlen
    rw [List.length_cons] at hlen
    exact ⟨l.length + 1, yy_pp_2 hl hd l a 0 hf (by omega) h _ (by omega)⟩

theorem yy_cb_28 {post : Int32 → Prop} {so ta de ke sw ev : Int32} {aa pa tr yl ys yv : Nat → Int32} {k m z : Nat} (hk : k < 13) (hm : m ≤ 7) (hz : z < 2 ^ 31) (hd : de = nI m) (hy : ys k = nI z) (h : post 0) :
    ∀ lp lq i, yk_fw lp pa i → yk_fw lq (fun i => yv (7 * k + i)) i → yk_lb lq lp → i + lp.length = m → i + lq.length = z → (∀ y, y ∈ lp → y < 7) → (∀ y, y ∈ lq → y < 7) →
      ∀ f, lp.length < f → wY_comesBefore_28 post (nI k) so ta de ke sw ev aa pa tr yl ys yv f (nI i) := by
  subst hd
  intro lp
  induction lp with
  | nil =>
    intro lq i _ _ _ hi _ _ _ f hf
    obtain ⟨f, rfl⟩ : ∃ g, f = g + 1 := ⟨f - 1, by omega⟩
    rw [List.length_nil] at hi
    exact br_c (fun _ => h) (fun _ => br_t (nI_le (by omega) (by omega)) h)
  | cons a lp ih =>
    intro lq i hp hq hlb hi hj h7 h7q f hf
    rw [List.length_cons] at hi hf
    obtain ⟨f, rfl⟩ : ∃ g, f = g + 1 := ⟨f - 1, by omega⟩
    rw [wY_comesBefore_28]
    dsimp only
    rw [nI_clamp (show k < 2 ^ 31 by omega), hy, nI_clamp (show i < 2 ^ 31 by omega), yy_7, nI_clamp (show 7 * k + i < 2 ^ 31 by omega)]
    refine br_f (nI_ge (a := i) (b := 7) (by omega) (by omega)) (br_f (nI_ge (by omega) (by omega)) ⟨vp_in_nI hk (by omega), ?_⟩)
    have i1 : vp_in (nI i) 7 := vp_in_nI (by omega) (by omega)
    have i2 : vp_in (nI (7 * k + i)) 91 := vp_in_nI (by omega) (by omega)
    cases lq with
    | nil =>
      rw [List.length_nil] at hj
      exact br_t (nI_le (by omega) (by omega)) h
    | cons b lq =>
      rw [List.length_cons] at hj
      refine br_f (nI_ge (by omega) (by omega)) ⟨i1, i2, ?_⟩
      have ha := h7 a (List.mem_cons_self ..)
      have hb := h7q b (List.mem_cons_self ..)
      have hq1 : yv (7 * k + i) = nI b := hq.1
      rw [hp.1, hq1]
      refine pk_eq a b (fun c => ?_) (fun c => ?_)
      · have hlb2 : yk_lb lq lp := by
          rcases hlb with c2 | c2
          · omega
          · exact c2.2
        exact nm_r (nI_1 i) (ih lq (i + 1) hp.2 hq.2 hlb2 (by omega) (by omega) (fun y hy => h7 y (List.mem_cons_of_mem a hy)) (fun y hy => h7q y (List.mem_cons_of_mem b hy)) f (by omega))
      · have hlt : b < a := by
          rcases hlb with c2 | c2
          · exact c2
          · exact absurd c2.1.symm c
        exact ⟨i1, i2, br_t (nI_le (by omega) (by omega)) h⟩

theorem yy_cb {post : Int32 → Prop} {so ta de ke sw ev : Int32} {aa pa tr yl ys yv : Nat → Int32} {w : Nat → Nat} {k l : Nat} {p q : List Nat} (hk : k < 13) (hl : l < 2 ^ 31) (hq : yk_ln w q < 2 ^ 31) (hy : yl k = nI (yk_ln w q)) (hz : ys k = nI q.length)
    (hsq : yk_sk q (fun i => yv (7 * k + i))) (hsp : yk_sk p pa) (hp7 : p.length ≤ 7) (hq7 : q.length ≤ 7) (hd : de = nI p.length) (hp : ∀ y, y ∈ p → y < 7) (hqb : ∀ y, y ∈ q → y < 7)
    (hlb : yk_lb q.reverse p.reverse) (h : post (if l < yk_ln w q then 1 else 0)) : wpY_comesBefore post (so, ta, de, ke, sw, ev, aa, pa, tr, yl, ys, yv) (nI l) (nI k) := by
  unfold wpY_comesBefore
  dsimp only
  rw [nI_clamp (show k < 2 ^ 31 by omega), hy]
  have i1 : vp_in (nI k) 13 := vp_in_nI hk (by omega)
  refine ⟨i1, pk_eq l (yk_ln w q) (fun c => ?_) (fun c => ⟨i1, pk_le (yk_ln w q) l (fun c2 => ?_) (fun c2 => ?_)⟩)⟩
  · rw [if_neg (by omega)] at h
    exact ⟨p.reverse.length + 1, yy_cb_28 hk hp7 (show q.length < 2 ^ 31 by omega) hd hz h p.reverse q.reverse 0 (yk_fw_sk hsp) (yk_fw_sk hsq) hlb (by rw [List.length_reverse]; omega) (by rw [List.length_reverse]; omega)
      (fun y hy => hp y (List.mem_reverse.mp hy)) (fun y hy => hqb y (List.mem_reverse.mp hy)) _ (by omega)⟩
  · rw [if_neg (by omega)] at h
    exact h
  · rw [if_pos c2] at h
    exact h

theorem yy_shift_30 {post : SY → Prop} {so ta de ke sw ev : Int32} {aa pa tr yl ys yv : Nat → Int32} {k : Nat} (hk : k < 12) (h : post (so, ta, de, ke, sw, ev, aa, pa, tr, yl, ys, yk_cp (k + 1) 7 yv)) :
    ∀ d i, i + d = 7 → ∀ f, d < f → wY_shift_30 post (nI k) so ta de ke sw ev f (nI i) aa pa tr yl ys (yk_cp (k + 1) i yv) := by
  intro d
  induction d with
  | zero =>
    intro i hi f hf
    obtain ⟨f, rfl⟩ : ∃ g, f = g + 1 := ⟨f - 1, by omega⟩
    have e : i = 7 := by omega
    subst e
    exact br_t (by decide) h
  | succ d ih =>
    intro i hi f hf
    obtain ⟨f, rfl⟩ : ∃ g, f = g + 1 := ⟨f - 1, by omega⟩
    rw [wY_shift_30]
    dsimp only
    refine br_f (nI_ge (a := i) (b := 7) (by omega) (by omega)) ?_
    have e0 : 7 * nI k + 7 + nI i = nI (7 * (k + 1) + i) := by
      rw [show (7 : Int32) * nI k + 7 = nI (7 * k + 7) from yy_7 k 7, nI_add]
      rfl
    have e1 : 7 * k + i = 7 * (k + 1) + i - 7 := by omega
    rw [e0, yy_7, e1, nI_clamp (show 7 * (k + 1) + i - 7 < 2 ^ 31 by omega), nI_clamp (show 7 * (k + 1) + i < 2 ^ 31 by omega)]
    refine ⟨vp_in_nI (by omega) (by omega), vp_in_nI (by omega) (by omega), ?_⟩
    rw [yk_cp_r yv (show 7 * (k + 1) + i - 7 < 7 * (k + 1) by omega), yk_cp_s]
    exact nm_e (nm_r (nI_1 i) (ih (i + 1) (by omega) f (by omega)))

theorem yy_shift {post : SY → Prop} {so ta de ke sw ev : Int32} {aa pa tr yl ys yv : Nat → Int32} {k : Nat} (hk : k < 12) (h : post (so, ta, de, ke, sw, ev, aa, pa, tr, upd yl (k + 1) (yl k), upd ys (k + 1) (ys k), yk_cp (k + 1) 7 yv)) : wpY_shift post (so, ta, de, ke, sw, ev, aa, pa, tr, yl, ys, yv) (nI k) := by
  unfold wpY_shift
  dsimp only
  rw [nI_1, nI_clamp (show k < 2 ^ 31 by omega), nI_clamp (show k + 1 < 2 ^ 31 by omega)]
  have i1 : vp_in (nI k) 13 := vp_in_nI (by omega) (by omega)
  have i2 : vp_in (nI (k + 1)) 13 := vp_in_nI (by omega) (by omega)
  have h8 := yy_shift_30 (yl := upd yl (k + 1) (yl k)) (ys := upd ys (k + 1) (ys k)) hk h 7 0 rfl 8 (by omega)
  rw [yk_cp_0] at h8
  exact ⟨i1, i2, nm_e ⟨i1, i2, nm_e ⟨8, h8⟩⟩⟩

def yk_up (n : Nat) : Nat := if n < 12 then n + 1 else n
theorem yy_keep_62 {post : SY → Prop} {so ta de ke sw ev : Int32} {aa pa tr yl ys yv : Nat → Int32} {r m n : Nat} (hr : r < 13) (hm : m ≤ 7) (hd : de = nI m) (hk : ke = nI n) (hn : n ≤ 12)
    (h : post (so, ta, de, nI (yk_up n), sw, ev, aa, pa, tr, yl, ys, yk_pl r m pa yv)) :
    ∀ d i, i + d = m → ∀ f, d < f → wY_keep_62 post (nI r) so ta de ke sw ev f (nI i) aa pa tr yl ys (yk_pl r i pa yv) := by
  subst hd hk
  intro d
  induction d with
  | zero =>
    intro i hi f hf
    obtain ⟨f, rfl⟩ : ∃ g, f = g + 1 := ⟨f - 1, by omega⟩
    have e : i = m := by omega
    subst e
    refine br_t (nI_le (by omega) (by omega)) ?_
    refine pk_le (x := 12) 12 n (fun c => ?_) (fun c => ?_)
    · rw [show yk_up n = n from if_neg (by omega)] at h
      exact h
    · rw [show yk_up n = n + 1 from if_pos (by omega)] at h
      exact nm_r (nI_1 n) h
  | succ d ih =>
    intro i hi f hf
    obtain ⟨f, rfl⟩ : ∃ g, f = g + 1 := ⟨f - 1, by omega⟩
    rw [wY_keep_62]
    dsimp only
    refine br_f (nI_ge (by omega) (by omega)) ?_
    rw [yy_7, nI_clamp (show i < 2 ^ 31 by omega), nI_clamp (show 7 * r + i < 2 ^ 31 by omega), yk_pl_s]
    exact ⟨vp_in_nI (by omega) (by omega), vp_in_nI (by omega) (by omega), nm_e (nm_r (nI_1 i) (ih (i + 1) (by omega) f (by omega)))⟩
