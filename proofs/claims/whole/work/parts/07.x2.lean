/-! The component's walk keeps the four rules. -/
def yx_J (w : Nat → Nat) (a : Nat → Int32) (s t : Nat) (p : List Nat) (K : List (List Nat)) (u : SX) : Prop := match u with
  | (so, ta, ra, oe, la, ot, aw, al, az, av, tv, tl, _) => so = nI s ∧ ta = nI t ∧ ra = nI (yk_ac w K).1 ∧ oe = yk_ms K ∧ la = nI p.length - 1 ∧ ot = yk_mk p ∧ aw = a ∧ yk_tb w (yk_ac w K) al az av ∧ yk_sk p tv ∧ yk_tl w p tl ∧ ∀ q, q ∈ K → q.length ≤ 7
def yx_nx (u : SX) : Nat → Int32
  | 0 => 0
  | j + 1 => u.2.2.2.2.2.2.2.2.2.2.2.2 j
def yx_W (post : SX → Prop) (fb : Int32) (n k : Nat) (u : SX) : Prop := match u with
  | (so, ta, ra, oe, la, ot, aw, al, az, av, tv, tl, nt) => wX_rankPaths_32 post fb n (nI k) so ta ra oe la ot aw al az av tv tl nt
def yk_ok (w : Nat → Nat) (fb : Nat) (x y : Nat) : Bool := decide (w (7 * x + y) ≠ 0) && decide (7 * x + y ≠ fb)
theorem yk_nc {x : Nat} {r : List Nat} (h : yk_vt (x :: r)) : r.contains x = false := by
  cases hc : r.contains x with
  | false => rfl
  | true => exact absurd (List.contains_iff_mem.mp hc) (List.nodup_cons.mp h.1).1
theorem yk_vt_len {p : List Nat} (h : yk_vt p) : p.length ≤ 7 := by
  have := yk_cn_all h
  omega

theorem yx_r1 (post : SX → Prop) (w : Nat → Nat) (a : Nat → Int32) (s t : Nat) (fI : Int32) : yk_R1 (yx_W post fI) (yx_J w a s t) yx_nx 1000000 t := by
  intro x r K u k hv hJ hn hx hk
  obtain ⟨so, ta, ra, oe, la, ot, aw, al, az, av, tv, tl, nt⟩ := u
  obtain ⟨h1, h2, h3, h4, h5, h6, h7, h8, h9, h10, h11⟩ := hJ
  have hlen := yk_vt_len hv
  rw [List.length_cons] at hlen
  have hla : la = nI r.length := by rw [h5, List.length_cons, nI_pred]
  subst hla
  have hn' : nt r.length = nI 7 := hn
  refine ⟨(so, ta, ra, oe, nI r.length - 1, yk_mk r, aw, al, az, av, tv, tl, nt), ⟨h1, h2, h3, h4, rfl, rfl, h7, h8, h9.2, h10.2, h11⟩, ?_, ?_⟩
  · intro i _
    cases i <;> rfl
  · intro n hW
    show wX_rankPaths_32 post fI (n + 1) (nI k) so ta ra oe (nI r.length) ot aw al az av tv tl nt
    rw [wX_rankPaths_32]
    dsimp only
    refine br_f (nI_ge (a := k) (b := 1000000) (by omega) (by omega)) (br_f (nI_pos (by omega)) ?_)
    rw [nI_clamp (show r.length < 2 ^ 31 by omega), hn']
    refine ⟨vp_in_nI (by omega) (by omega), nm_e (br_t rfl ?_)⟩
    refine yx_stepBack (by omega) rfl h9.1 ?_
    dsimp only
    rw [h6, yk_mk_pop (fun y hy => hv.2 y (List.mem_cons_of_mem x hy)) (hv.2 x (List.mem_cons_self ..)) (yk_nc hv)]
    exact nm_r (nI_1 k) hW

/-- the step up to the branch on the vertex's arc -/
theorem yx_try0 {post : SX → Prop} {so ta ra oe la ot : Int32} {aw al az av tv tl nt : Nat → Int32} {x v : Nat} {r : List Nat} {fI : Int32} (hv : yk_vt (x :: r)) (h7 : v < 7) (hla : la = nI r.length) (hot : ot = yk_mk (x :: r)) (htv : tv r.length = nI x)
    (h0 : (x :: r).contains v = false → wX_tryVertex_31 post (nI v) fI (nI (7 * x + v)) 0 so ta ra oe la ot aw al az av tv tl nt)
    (h1 : (x :: r).contains v = true → post (so, ta, ra, oe, la, ot, aw, al, az, av, tv, tl, nt)) : wpX_tryVertex post (so, ta, ra, oe, la, ot, aw, al, az, av, tv, tl, nt) (nI v) fI := by
  have hlen := yk_vt_len hv
  rw [List.length_cons] at hlen
  subst hla hot
  unfold wpX_tryVertex
  dsimp only
  have e : nI x * 7 + nI v = nI (7 * x + v) := by
    rw [show nI x * (7 : Int32) = nI (x * 7) from pk_mul x 7, nI_add, Nat.mul_comm]
  rw [nI_clamp (show r.length < 2 ^ 31 by omega), htv, e]
  refine ⟨vp_in_nI (by omega) (by omega), nm_e ?_⟩
  have hin := yk_mk_in (x :: r) hv.2 v h7
  cases hc : (x :: r).contains v with
  | false => exact br_t (hin.mpr hc) (h0 hc)
  | true =>
    refine br_f (fun z => ?_) ?_
    · have := hin.mp z
      rw [hc] at this
      exact Bool.noConfusion this
    · exact br_f (by decide) (h1 hc)

theorem yx_r2 (post : SX → Prop) {w : Nat → Nat} {a : Nat → Int32} (s t : Nat) {fI : Int32} {fb : Nat} (ha : ∀ c, a c = nI (w c)) (hw : ∀ c, w c ≤ 50) (hfb : ∀ c, c < 49 → (nI c = fI ↔ c = fb)) :
    yk_R2 (yx_W post fI) (yx_J w a s t) yx_nx 1000000 (yk_ok w fb) t := by
  intro x r K u k v hv hJ h7' hn hx hbl hk
  obtain ⟨so, ta, ra, oe, la, ot, aw, al, az, av, tv, tl, nt⟩ := u
  have hJ' := hJ
  obtain ⟨h1, h2, h3, h4, h5, h6, h7, h8, h9, h10, h11⟩ := hJ'
  have hlen := yk_vt_len hv
  rw [List.length_cons] at hlen
  have hx7 := hv.2 x (List.mem_cons_self ..)
  have hla : la = nI r.length := by rw [h5, List.length_cons, nI_pred]
  have hn' : nt r.length = nI v := hn
  refine ⟨(so, ta, ra, oe, la, ot, aw, al, az, av, tv, tl, upd nt r.length (nI (v + 1))), hJ, pk_us, ?_, ?_⟩
  · intro i hi
    cases i with
    | zero => rfl
    | succ i => exact pk_un (by omega)
  · intro n hW
    subst hla
    show wX_rankPaths_32 post fI (n + 1) (nI k) so ta ra oe (nI r.length) ot aw al az av tv tl nt
    rw [wX_rankPaths_32]
    dsimp only
    refine br_f (nI_ge (a := k) (b := 1000000) (by omega) (by omega)) (br_f (nI_pos (by omega)) ?_)
    rw [nI_clamp (show r.length < 2 ^ 31 by omega), hn']
    have hin : vp_in (nI r.length) 7 := vp_in_nI (by omega) (by omega)
    refine ⟨hin, nm_e (br_f (fun z => ?_) ⟨hin, nm_r (by rw [nI_1]) ?_⟩)⟩
    · have := (nI_eq (a := v) (b := 7) (by omega) (by omega)).mp z
      omega
    · refine yx_try0 hv h7' rfl h6 h9.1 (fun hc => ?_) (fun _ => ?_)
      · have hok : yk_ok w fb x v = false := by
          have h := hbl
          unfold yk_bl at h
          rw [hc, Bool.false_or] at h
          cases ho : yk_ok w fb x v with
          | false => rfl
          | true => rw [show (x :: r).headD 0 = x from rfl, ho] at h; exact Bool.noConfusion h
        unfold wX_tryVertex_31
        subst h7
        rw [nI_clamp (show 7 * x + v < 2 ^ 31 by omega), ha]
        have hw1 := hw (7 * x + v)
        refine br_t rfl ⟨vp_in_nI (by omega) (by omega), ?_⟩
        refine pk_eq (w (7 * x + v)) 0 (fun _ => ?_) (fun c => br_t ?_ ?_)
        · dsimp only
          exact nm_r (nI_1 k) hW
        · refine (hfb _ (by omega)).mpr ?_
          unfold yk_ok at hok
          rw [decide_eq_true c, Bool.true_and] at hok
          exact Decidable.of_not_not (of_decide_eq_false hok)
        · dsimp only
          exact nm_r (nI_1 k) hW
      · dsimp only
        exact nm_r (nI_1 k) hW

theorem yk_bl_ok {w : Nat → Nat} {fb x v : Nat} {r : List Nat} (h : yk_bl (yk_ok w fb) (x :: r) v = false) : w (7 * x + v) ≠ 0 ∧ 7 * x + v ≠ fb := by
  have h1 := (Bool.or_eq_false_iff.mp h).2
  have h2 : yk_ok w fb x v = true := by
    cases ho : yk_ok w fb x v with
    | true => rfl
    | false => rw [show (x :: r).headD 0 = x from rfl, ho] at h1; exact Bool.noConfusion h1
  unfold yk_ok at h2
  rw [Bool.and_eq_true] at h2
  exact ⟨of_decide_eq_true h2.1, of_decide_eq_true h2.2⟩

theorem yx_r3 (post : SX → Prop) {w : Nat → Nat} {a : Nat → Int32} (s t : Nat) (ht : t < 7) {fI : Int32} {fb : Nat} (ha : ∀ c, a c = nI (w c)) (hw : ∀ c, w c ≤ 50) (hfb : ∀ c, c < 49 → (nI c = fI ↔ c = fb)) :
    yk_R3 (yx_W post fI) (yx_J w a s t) yx_nx 1000000 (yk_ok w fb) t := by
  intro x r K u k v hvv hJ h7' hn hx hbl hvt hk
  obtain ⟨so, ta, ra, oe, la, ot, aw, al, az, av, tv, tl, nt⟩ := u
  obtain ⟨h1, h2, h3, h4, h5, h6, h7, h8, h9, h10, h11⟩ := hJ
  have hlen := yk_vt_len hvv
  rw [List.length_cons, List.length_cons] at hlen
  have hv : yk_vt (x :: r) := ⟨(List.nodup_cons.mp hvv.1).2, fun y hy => hvv.2 y (List.mem_cons_of_mem v hy)⟩
  have hx7 := hv.2 x (List.mem_cons_self ..)
  have hla : la = nI r.length := by rw [h5, List.length_cons, nI_pred]
  have hn' : nt r.length = nI v := hn
  obtain ⟨hok1, hok2⟩ := yk_bl_ok hbl
  refine ⟨(so, ta, ra, oe, nI (r.length + 1), yk_mk (v :: x :: r), aw, al, az, av, upd tv (r.length + 1) (nI v), upd tl (r.length + 1) (nI (yk_ln w (v :: x :: r))), upd (upd nt r.length (nI (v + 1))) (r.length + 1) 0),
    ⟨h1, h2, h3, h4, ?_, rfl, h7, h8, ⟨pk_us, yk_sk_ag (fun i hi => ?_) h9⟩, ⟨pk_us, yk_tl_ag (fun i hi => ?_) h10⟩, h11⟩, pk_us, ?_, ?_, ?_⟩
  · rw [List.length_cons, List.length_cons, nI_pred]
  · rw [List.length_cons] at hi
    exact pk_un (by omega)
  · rw [List.length_cons] at hi
    exact pk_un (by omega)
  · exact (pk_un (by omega)).trans pk_us
  · intro i hi
    cases i with
    | zero => rfl
    | succ i => exact (pk_un (by omega)).trans (pk_un (by omega))
  · intro n hW
    subst hla
    show wX_rankPaths_32 post fI (n + 1) (nI k) so ta ra oe (nI r.length) ot aw al az av tv tl nt
    rw [wX_rankPaths_32]
    dsimp only
    refine br_f (nI_ge (a := k) (b := 1000000) (by omega) (by omega)) (br_f (nI_pos (by omega)) ?_)
    rw [nI_clamp (show r.length < 2 ^ 31 by omega), hn']
    have hin : vp_in (nI r.length) 7 := vp_in_nI (by omega) (by omega)
    have hin2 : vp_in (nI (7 * x + v)) 49 := vp_in_nI (by omega) (by omega)
    have hw1 := hw (7 * x + v)
    refine ⟨hin, nm_e (br_f (fun z => ?_) ⟨hin, nm_r (by rw [nI_1]) ?_⟩)⟩
    · have := (nI_eq (a := v) (b := 7) (by omega) (by omega)).mp z
      omega
    · refine yx_try0 hv h7' rfl h6 h9.1 (fun _ => ?_) (fun hc => ?_)
      · unfold wX_tryVertex_31
        rw [nI_clamp (show 7 * x + v < 2 ^ 31 by omega), h7, ha, nI_clamp (show r.length < 2 ^ 31 by omega), show tl r.length = nI (yk_ln w (x :: r)) from h10.1, nI_add]
        refine br_t rfl ⟨hin2, br_f (nI_ne0 (by omega) (by omega)) (br_f (fun z => hok2 ((hfb _ (by omega)).mp z)) ⟨hin, hin2, ?_⟩)⟩
        refine yx_stepTo (m := r.length + 1) (by omega) (nI_1 _) ?_
        dsimp only
        refine br_f (fun z => ?_) ?_
        · rw [h2] at z
          exact hvt ((nI_eq (by omega) (by omega)).mp z)
        · rw [h6, ← h7]
          exact nm_r (nI_1 k) hW
      · rw [yk_bl_c hbl] at hc
        exact Bool.noConfusion hc

theorem yx_r4 (post : SX → Prop) {w : Nat → Nat} {a : Nat → Int32} (s t : Nat) {fI : Int32} {fb : Nat} (ha : ∀ c, a c = nI (w c)) (hw : ∀ c, w c ≤ 50) (hfb : ∀ c, c < 49 → (nI c = fI ↔ c = fb)) :
    yk_R4 (yx_W post fI) (yx_J w a s t) yx_nx 1000000 (yk_ok w fb) t := by
  intro x r K u k v hvv hJ h7' hn hx hbl hvt hk _
  obtain ⟨so, ta, ra, oe, la, ot, aw, al, az, av, tv, tl, nt⟩ := u
  obtain ⟨h1, h2, h3, h4, h5, h6, h7, h8, h9, h10, h11⟩ := hJ
  have hlen := yk_vt_len hvv
  rw [List.length_cons, List.length_cons] at hlen
  have hv : yk_vt (x :: r) := ⟨(List.nodup_cons.mp hvv.1).2, fun y hy => hvv.2 y (List.mem_cons_of_mem v hy)⟩
  have hx7 := hv.2 x (List.mem_cons_self ..)
  have hla : la = nI r.length := by rw [h5, List.length_cons, nI_pred]
  have hn' : nt r.length = nI v := hn
  obtain ⟨hok1, hok2⟩ := yk_bl_ok hbl
  have hiv := yk_iv_ac w K
  have hlb : ∀ q : List Nat, q.length ≤ 7 → yk_ln w q < 2 ^ 31 := by
    intro q hq
    have := yk_ln_le hw q
    omega
  have hst : yk_sk (v :: x :: r) (upd tv (r.length + 1) (nI v)) := by
    refine ⟨pk_us, yk_sk_ag (fun i hi => ?_) h9⟩
    rw [List.length_cons] at hi
    exact pk_un (by omega)
  -- the state that the note leaves is chosen by the walk itself
  have key : ∃ al' az' av', yk_tb w (yk_ac w (K ++ [v :: x :: r])) al' az' av' ∧ ∀ Q : SX → Prop,
      Q (so, ta, nI (yk_ac w (K ++ [v :: x :: r])).1, yk_ms (K ++ [v :: x :: r]), nI (r.length + 1), yk_mk (v :: x :: r), aw, al', az', av', upd tv (r.length + 1) (nI v), upd tl (r.length + 1) (nI (yk_ln w (v :: x :: r))), upd (upd nt r.length (nI (v + 1))) (r.length + 1) 0) →
      wpX_notePath Q (so, ta, ra, oe, nI (r.length + 1), yk_mk (v :: x :: r), aw, al, az, av, upd tv (r.length + 1) (nI v), upd tl (r.length + 1) (nI (yk_ln w (v :: x :: r))), upd (upd nt r.length (nI (v + 1))) (r.length + 1) 0) := by
    rw [yk_ac_s, yk_ms_s]
    subst h3 h4
    obtain ⟨al', az', av', hT, hQ⟩ := yx_noteE (so := so) (ta := ta) (oe := yk_ms K) (ot := yk_mk (v :: x :: r)) (aw := aw) (nt := upd (upd nt r.length (nI (v + 1))) (r.length + 1) 0) (w := w) (A := yk_ac w K) (p := v :: x :: r) (j := r.length + 1)
      (tl := upd tl (r.length + 1) (nI (yk_ln w (v :: x :: r)))) (by omega) rfl rfl rfl hiv.1 pk_us (hlb _ (by rw [List.length_cons, List.length_cons]; omega)) h8
      (fun k hk => hlb _ (h11 _ (hiv.2.1 k hk))) (fun k hk => h11 _ (hiv.2.1 k hk)) hst
    exact ⟨al', az', av', hT, hQ⟩
  obtain ⟨al', az', av', hT', hQ⟩ := key
  refine ⟨(so, ta, nI (yk_ac w (K ++ [v :: x :: r])).1, yk_ms (K ++ [v :: x :: r]), nI (r.length + 1) - 1, yk_mk (x :: r), aw, al', az', av', upd tv (r.length + 1) (nI v), upd tl (r.length + 1) (nI (yk_ln w (v :: x :: r))), upd (upd nt r.length (nI (v + 1))) (r.length + 1) 0), 1, by omega,
    ⟨h1, h2, rfl, rfl, rfl, rfl, h7, hT', hst.2, yk_tl_ag (fun i hi => ?_) h10, ?_⟩, ?_, ?_, ?_⟩
  · rw [List.length_cons] at hi
    exact pk_un (by omega)
  · intro q hq
    rcases List.mem_append.mp hq with hq | hq
    · exact h11 q hq
    · rw [List.mem_singleton.mp hq, List.length_cons, List.length_cons]
      omega
  · exact (pk_un (by omega)).trans pk_us
  · intro i hi
    cases i with
    | zero => rfl
    | succ i => exact (pk_un (by omega)).trans (pk_un (by omega))
  · intro n hW
    subst hla
    show wX_rankPaths_32 post fI (n + 1) (nI k) so ta ra oe (nI r.length) ot aw al az av tv tl nt
    rw [wX_rankPaths_32]
    dsimp only
    refine br_f (nI_ge (a := k) (b := 1000000) (by omega) (by omega)) (br_f (nI_pos (by omega)) ?_)
    rw [nI_clamp (show r.length < 2 ^ 31 by omega), hn']
    have hin : vp_in (nI r.length) 7 := vp_in_nI (by omega) (by omega)
    have hin2 : vp_in (nI (7 * x + v)) 49 := vp_in_nI (by omega) (by omega)
    have hw1 := hw (7 * x + v)
    refine ⟨hin, nm_e (br_f (fun z => ?_) ⟨hin, nm_r (by rw [nI_1]) ?_⟩)⟩
    · have := (nI_eq (a := v) (b := 7) (by omega) (by omega)).mp z
      omega
    · refine yx_try0 hv h7' rfl h6 h9.1 (fun _ => ?_) (fun hc => ?_)
      · unfold wX_tryVertex_31
        rw [nI_clamp (show 7 * x + v < 2 ^ 31 by omega), h7, ha, nI_clamp (show r.length < 2 ^ 31 by omega), show tl r.length = nI (yk_ln w (x :: r)) from h10.1, nI_add]
        refine br_t rfl ⟨hin2, br_f (nI_ne0 (by omega) (by omega)) (br_f (fun z => hok2 ((hfb _ (by omega)).mp z)) ⟨hin, hin2, ?_⟩)⟩
        refine yx_stepTo (m := r.length + 1) (by omega) (nI_1 _) ?_
        dsimp only
        refine br_t (by rw [h2, hvt]) ?_
        rw [h6, ← h7]
        refine hQ _ ?_
        dsimp only
        refine yx_stepBack (m := r.length + 1) (v := v) (by omega) rfl pk_us ?_
        dsimp only
        rw [yk_mk_pop hv.2 h7' (yk_nc hvv)]
        exact nm_r (nI_1 k) hW
      · rw [yk_bl_c hbl] at hc
        exact Bool.noConfusion hc
