/-! by hand: join, meet -/
theorem JN_ex {n : Nat} {p p2 : Nat → Nat} (h7 : n ≤ 7) (hp : ∀ x, x < n → p x < 100) (hp2 : ∀ x, x < n → p2 x < 100) : ∃ q, JN n p p2 q := by
  have h := Pa_mergeBy_wp (n := n) (p := p) (p2 := p2) (M := fun k j => if k = 26 then nI n else if k = 27 then nI (p j) else nI (p2 j)) h7 rfl (fun j _ => rfl) (fun j _ => rfl) hp hp2
  obtain ⟨r, -, -, q, -, -, hq⟩ := h
  exact ⟨q, hq⟩
theorem JN_uniq {n : Nat} {p p2 q q' : Nat → Nat} (h : JN n p p2 q) (h' : JN n p p2 q') : ∀ x y, x < n → y < n → (q x = q y ↔ q' x = q' y) :=
  fun x y hx hy => ⟨fun e => h.2.2 q' h'.1 h'.2.1 x y hx hy e, fun e => h'.2.2 q h.1 h.2.1 x y hx hy e⟩
noncomputable def jnq (n : Nat) (p p2 : Nat → Nat) : Nat → Nat := Classical.epsilon (fun q => JN n p p2 q)
theorem jnq_ok {n : Nat} {p p2 : Nat → Nat} (h7 : n ≤ 7) (hp : ∀ x, x < n → p x < 100) (hp2 : ∀ x, x < n → p2 x < 100) : JN n p p2 (jnq n p p2) := Classical.epsilon_spec (JN_ex h7 hp hp2)
theorem sm_lt {n : Nat} {f g : Nat → Nat} (h : ∀ x, x < n → f x ≤ g x) {z : Nat} (hz : z < n) (hs : f z < g z) : sm n f + 1 ≤ sm n g := by
  induction n with
  | zero => omega
  | succ n ih =>
    simp only [sm]
    by_cases e : z = n
    · subst e
      have := sm_mono (n := z) (f := f) (g := g) (fun x hx => h x (by omega))
      omega
    · have h1 := ih (fun x hx => h x (by omega)) (by omega)
      have h2 := h n (by omega)
      omega
theorem sm_all {n : Nat} : sm n (fun _ => 1) = n := by
  induction n with
  | zero => rfl
  | succ n ih => simp only [sm]; rw [ih]
def cs (n : Nat) (q a : Nat → Nat) : Nat := sm n (fun x => if a x = fs q x then 1 else 0)
theorem cs_full {n : Nat} {q a : Nat → Nat} (h : n ≤ cs n q a) : ∀ x, x < n → a x = fs q x := by
  intro x hx
  by_cases e : a x = fs q x
  · exact e
  · have h1 := sm_lt (n := n) (f := fun x => if a x = fs q x then 1 else 0) (g := fun _ => 1) (fun x _ => by split <;> omega) hx (by rw [if_neg e]; omega)
    rw [sm_all] at h1
    unfold cs at h; omega
/-- one round settles one more -/
theorem cs_more {n : Nat} {p p2 q a a' : Nat → Nat} (hq : JN n p p2 q) (ha : ∀ x, x < n → a x ≤ x ∧ q (a x) = q x) (ha' : ∀ x, x < n → a' x ≤ a x ∧ q (a' x) = q x)
    (hr : ∀ x y, x < n → y < n → (p x = p y ∨ p2 x = p2 y) → a' x ≤ a y) : min n (cs n q a + 1) ≤ cs n q a' := by
  have hk : ∀ x, x < n → a x = fs q x → a' x = fs q x := fun x hx e => by
    have h1 := ha' x hx
    have h2 := ha x hx
    have h3 := fs_min (p := q) (x := x) (y := a' x) h1.2 (by omega)
    omega
  by_cases hall : ∀ x, x < n → a x = fs q x
  · have : cs n q a' = n := by
      unfold cs
      rw [sm_cg (g := fun _ => 1) (fun x hx => if_pos (hk x hx (hall x hx))), sm_all]
    omega
  · have hex : ∃ u, u < n ∧ a u ≠ fs q u := by
      refine Classical.byContradiction fun hc => hall fun x hx => Classical.byContradiction fun hx2 => hc ⟨x, hx, hx2⟩
    obtain ⟨u, hu, hun⟩ := hex
    -- an unsettled one beside a settled one
    have hxy : ∃ x y, x < n ∧ y < n ∧ a x ≠ fs q x ∧ a y = fs q y ∧ q x = q y ∧ (p x = p y ∨ p2 x = p2 y) := by
      refine Classical.byContradiction fun hc => ?_
      have hg : ∀ x y, x < n → y < n → (p x = p y ∨ p2 x = p2 y) → q x = q y → (a x = fs q x ↔ a y = fs q y) := fun x y hx hy hr hqe => by
        constructor
        · intro e
          exact Classical.byContradiction fun e2 => hc ⟨y, x, hy, hx, e2, e, hqe.symm, hr.imp Eq.symm Eq.symm⟩
        · intro e
          exact Classical.byContradiction fun e2 => hc ⟨x, y, hx, hy, e2, e, hqe, hr⟩
      have h3 := hq.2.2 (fun x => 2 * q x + if a x = fs q x then 1 else 0) (fun x y hx hy e => by
        have e1 := hq.1 x y hx hy e
        have e2 := hg x y hx hy (Or.inl e) e1
        show 2 * q x + (if a x = fs q x then 1 else 0) = 2 * q y + if a y = fs q y then 1 else 0
        rw [e1]
        by_cases c : a x = fs q x
        · rw [if_pos c, if_pos (e2.mp c)]
        · rw [if_neg c, if_neg (fun z => c (e2.mpr z))]) (fun x y hx hy e => by
        have e1 := hq.2.1 x y hx hy e
        have e2 := hg x y hx hy (Or.inr e) e1
        show 2 * q x + (if a x = fs q x then 1 else 0) = 2 * q y + if a y = fs q y then 1 else 0
        rw [e1]
        by_cases c : a x = fs q x
        · rw [if_pos c, if_pos (e2.mp c)]
        · rw [if_neg c, if_neg (fun z => c (e2.mpr z))])
      have hz := fs_le q u
      have h4 := h3 u (fs q u) hu (by omega) (fs_eq q u).symm
      have h5 : 2 * q u + (if a u = fs q u then 1 else 0) = 2 * q (fs q u) + if a (fs q u) = fs q (fs q u) then 1 else 0 := h4
      rw [if_neg hun, fs_eq q u, if_pos] at h5
      · omega
      · have h6 := ha (fs q u) (by omega)
        have h7 := fs_min (p := q) (x := u) (y := a (fs q u)) (h6.2.trans (fs_eq q u)) (by omega)
        rw [fs_fs]; omega
    obtain ⟨x, y, hx, hy, hxn, hyy, hqe, hr1⟩ := hxy
    have hfin : a' x = fs q x := by
      have h1 := hr x y hx hy hr1
      rw [hyy, ← fs_same hqe] at h1
      have h2 := ha' x hx
      have h3 := ha x hx
      have h4 := fs_min (p := q) (x := x) (y := a' x) h2.2 (by omega)
      omega
    have := sm_lt (n := n) (f := fun x => if a x = fs q x then 1 else 0) (g := fun x => if a' x = fs q x then 1 else 0) (fun z hz => by
      by_cases c : a z = fs q z
      · rw [if_pos c, if_pos (hk z hz c)]; exact Nat.le_refl _
      · rw [if_neg c]; exact Nat.zero_le _) hx (by rw [if_neg hxn, if_pos hfin]; omega)
    unfold cs
    omega
noncomputable def R_join (σ : Sg) (v w : Int32) : Ans := match opn σ.1 v, opn σ.1 w with
  | some p, some p2 => (σ, nI (num (cn (jnq σ.1 p p2)) σ.1))
  | _, _ => no σ 1
def R_meet (σ : Sg) (v w : Int32) : Ans := match opn σ.1 v, opn σ.1 w with
  | some p, some p2 => (σ, nI (num (cn (fun x => 10 * p x + p2 x)) σ.1))
  | _, _ => no σ 1
theorem SCRx : ∀ a ∈ [27, 30, 31], a ∈ SCR := by decide
theorem SCR30 : ∀ a ∈ [30, 31], a ∈ SCR := by decide
theorem SP_join_wp {σ : Sg} {M : Mem} (v w : Int32) (hw : WF σ) (h : RC M σ) : wp (SP_join v w M) (EC (R_join σ v w) M) := by
  have hn : M 1 2 = nI σ.1 := h.1
  unfold SP_join R_join
  rw [hn]
  refine wp_bnd2 (Pa_readNumber_wp isP_26 hw.1 hw.2.1) (fun r M1 hr => ?_)
  obtain ⟨f1, hr⟩ := hr
  have g1 : Fr SCR M M1 := f1.mo SCR26
  have h1 := h.fr g1
  rw [jp_e]
  rcases hr with ⟨p, e, rfl, hp⟩ | ⟨e, rfl⟩
  · rw [e, if_neg one_ne0, show M1 1 2 = nI σ.1 from h1.1]
    refine wp_bnd2 (Pa_readNumber_wp isP_28 hw.1 hw.2.1) (fun r M2 hr => ?_)
    obtain ⟨f2, hr⟩ := hr
    have g2 : Fr SCR M1 M2 := f2.mo SCR28
    have h2 := h1.fr g2
    rcases hr with ⟨p2, e2, rfl, hp2⟩ | ⟨e2, rfl⟩
    · rw [e2, if_neg one_ne0]
      have hp' := hp.fr (f2 26 (by decide)) (f2 27 (by decide))
      have o1 := (opn_some e).1
      have o2 := (opn_some e2).1
      have h7 := hw.2.1
      have c1 : ∀ x, x < σ.1 → p x < 100 := fun x hx => by have := o1.ltn x hx; omega
      have c2 : ∀ x, x < σ.1 → p2 x < 100 := fun x hx => by have := o2.ltn x hx; omega
      refine wp_bind (Pa_mergeBy_wp h7 hp'.1 hp'.2.2 hp2.2.2 c1 c2) (fun M3 hM3 => ?_)
      obtain ⟨f3, q, hq, hq100, hj⟩ := hM3
      unfold Pa_copyRenumbered
      refine wp_bind (wp_bind (Pa_cross_wp (Or.inl rfl) h7 ((congrFun (f3 26 (by decide)) 1).trans hp'.1) hq hq hq100 hq100) (fun M4 hM4 => wp_some hM4)) (fun M4 hM4 => ?_)
      obtain ⟨f4, h4⟩ := hM4
      rw [Pa_number_eq isP_30 h7 h4, bind_s]
      dsimp only
      have ec : num (lb fun y x => q x == q y && q x == q y) σ.1 = num (cn (jnq σ.1 p p2)) σ.1 := by
        have ej := JN_uniq hj (jnq_ok h7 c1 c2)
        rw [← num_cg (cn_cg ej)]
        refine num_cg fun x _ => ?_
        unfold cn
        congr 1
        funext y x
        rw [Bool.and_self]
        unfold eqr
        rw [Bool.eq_iff_iff, beq_iff_eq, beq_iff_eq]
        exact eq_comm
      rw [ec]
      have g4 : Fr SCR M2 M4 := ((f3.mo (by simp) : Fr [27, 30, 31] M2 M3).tr (f4.mo (by simp))).mo SCRx
      exact wp_some (ec_ok (h2.fr g4) ((g1.tr g2).tr g4).hi)
    · rw [e2, if_pos rfl]
      exact SP_no1 h2 (g1.tr g2).hi
  · rw [e, if_pos rfl]
    exact SP_no1 h1 g1.hi
set_option maxHeartbeats 1000000 in
theorem MD_join_wp {σ : Sg} {M : Mem} (v w : Int32) (hw : WF σ) (h : RM M σ) : wp (MD_join v w M) (EM (R_join σ v w) M) := by
  have hn : M 33 8 = nI σ.1 := h.1
  have h7 : σ.1 ≤ 7 := hw.2.1
  unfold MD_join R_join
  refine wp_bnd2 (MD_opens_wp (Or.inl rfl) hw.1 hw.2.1 hn) (fun r M1 hr => ?_)
  obtain ⟨f1, hr⟩ := hr
  have g1 : Fr SMR M M1 := f1.mo SMR50
  have h1 := h.fr g1
  rw [jp_e]
  rcases hr with ⟨p, e, e2, hp⟩ | ⟨e, e2⟩
  · have ht := (opn_some e).1.top7
    simp only at e2
    rw [e, e2, if_neg (nI_pos (by omega))]
    refine wp_bnd2 (MD_opens_wp (Or.inr rfl) hw.1 hw.2.1 h1.1) (fun r M2 hr => ?_)
    obtain ⟨f2, hr⟩ := hr
    have g2 : Fr SMR M1 M2 := f2.mo SMR51
    have h2 := h1.fr g2
    rcases hr with ⟨p2, e3, e4, hp2⟩ | ⟨e3, e4⟩
    · have ht2 := (opn_some e3).1.top7
      simp only at e4
      rw [e3, e4, if_pos (nI_nn (by omega))]
      have hp' := hp.fr (f2 50 (by decide))
      have o1 := (opn_some e).1
      have o2 := (opn_some e3).1
      have c1 : ∀ x, x < σ.1 → p x < 100 := fun x hx => by have := o1.ltn x hx; omega
      have c2 : ∀ x, x < σ.1 → p2 x < 100 := fun x hx => by have := o2.ltn x hx; omega
      have hj := jnq_ok h7 c1 c2
      dsimp only at hp'
      dsimp only
      generalize hq : jnq σ.1 p p2 = q at hj ⊢
      generalize hnn : σ.1 = n at h7 hp' hp2 c1 c2 hj ⊢
      have hn2 : M2 33 8 = nI n := by rw [← hnn]; exact h2.1
      refine LOOP_up (fun x (t : Mem) => (nI x, t)) n (by omega) (fun x t => Fr [52] M2 t ∧ AR t 52 x (fun x => x)) (fun o => wp o _) ?_ ?_ 0 M2 (by omega) ⟨Fr.rf, fun j hj => by omega⟩
      · rintro x t ag hx ⟨hf, a⟩ ih
        show wp (MD_join_L32 _ ag (nI x) t) _
        unfold MD_join_L32
        rw [hf 33 (by decide), hn2, if_neg (by rw [nI_leI (by omega) (by omega)]; omega), if_pos ((inb_nI (by omega)).mpr (by omega)), nm_e', wr_nI (by omega), show (1 : Int32) = nI 1 from rfl, nI_add]
        refine ih _ ⟨hf.tr (Fr.st (by simp)), fun j hj => ?_⟩
        rw [st2_s]
        by_cases e : j = x
        · subst e; rw [upd_s]
        · rw [upd_n e]; exact a j (by omega)
      · rintro t0 ag0 ⟨hf0, a0⟩
        show wp (MD_join_L32 _ ag0 (nI n) t0) _
        unfold MD_join_L32
        rw [hf0 33 (by decide), hn2, if_pos (by rw [nI_leI (by omega) (by omega)]; omega)]
        refine LOOP_up (fun i (t : Mem) => (nI i, t)) n (by omega) (fun i t => Fr [52] M2 t ∧ ∃ a, AR t 52 n a ∧ (∀ x, x < n → a x ≤ x ∧ q (a x) = q x) ∧ i ≤ cs n q a) (fun o => wp o _) ?_ ?_ 0 t0 (by omega) ⟨hf0, _, a0, fun x _ => ⟨Nat.le_refl _, rfl⟩, Nat.zero_le _⟩
        · rintro i t ag hi ⟨hf, a, ha, hv, hc⟩ ih
          show wp (MD_join_L55 _ ag (nI i) t) _
          unfold MD_join_L55
          rw [hf 33 (by decide), hn2, if_neg (by rw [nI_leI (by omega) (by omega)]; omega)]
          refine LOOP_up (fun x (t : Mem) => (nI x, t)) n (by omega) (fun x t => Fr [52] M2 t ∧ ∃ b, AR t 52 n b ∧ (∀ x, x < n → b x ≤ a x ∧ q (b x) = q x) ∧ ∀ u v, u < x → v < n → (p u = p v ∨ p2 u = p2 v) → b u ≤ a v) (fun o => wp o _) ?_ ?_ 0 t (by omega) ⟨hf, a, ha, fun x hx => ⟨Nat.le_refl _, (hv x hx).2⟩, fun u v hu => by omega⟩
          · rintro x t ag' hx ⟨hf, b, hb, hbv, hbr⟩ ih'
            show wp (MD_join_L66 _ ag' (nI x) t) _
            unfold MD_join_L66
            rw [hf 33 (by decide), hn2, if_neg (by rw [nI_leI (by omega) (by omega)]; omega)]
            refine LOOP_up (fun y (t : Mem) => (nI y, t)) n (by omega) (fun y t => Fr [52] M2 t ∧ ∃ b, AR t 52 n b ∧ (∀ x, x < n → b x ≤ a x ∧ q (b x) = q x) ∧ ∀ u v, u ≤ x → v < n → (u < x ∨ v < y) → (p u = p v ∨ p2 u = p2 v) → b u ≤ a v) (fun o => wp o _) ?_ ?_ 0 t (by omega) ⟨hf, b, hb, hbv, fun u v hu hv hd hr => hbr u v (by omega) hv hr⟩
            · rintro y t ag'' hy ⟨hf, b, hb, hbv, hbr⟩ ih''
              show wp (MD_join_L78 (nI x) _ ag'' (nI y) t) _
              unfold MD_join_L78
              have i7 : inb (nI x) 7 := (inb_nI (by omega)).mpr (by omega)
              have j7 : inb (nI y) 7 := (inb_nI (by omega)).mpr (by omega)
              have a50 : AR t 50 n p := hp'.fr (hf 50 (by decide))
              have a51 : AR t 51 n p2 := hp2.fr (hf 51 (by decide))
              have bx := hbv x hx
              have by' := hbv y hy
              have vx := hv x hx
              have vy := hv y hy
              have p1 := c1 x hx
              have p3 := c1 y hy
              have p5 := c2 x hx
              have p6 := c2 y hy
              rw [hf 33 (by decide), hn2, if_neg (by rw [nI_leI (by omega) (by omega)]; omega)]
              simp only [if_pos i7, if_pos j7, jp_e, nm_e']
              rw [rd_nI (by omega), rd_nI (by omega), rd_nI (by omega), rd_nI (by omega), rd_nI (by omega), rd_nI (by omega), a50 x hx, a50 y hy, a51 x hx, a51 y hy, hb x hx, hb y hy, wr_nI (by omega), show (1 : Int32) = nI 1 from rfl, nI_add]
              simp (disch := omega) only [nI_eq, nI_leI]
              have hno : (p x ≠ p y ∧ p2 x ≠ p2 y) → wp (ag'' (nI (y + 1), t)) (EM (σ, nI (num (cn q) n)) M) := fun hne => by
                refine ih'' t ⟨hf, b, hb, hbv, fun u v hu hv hd hr => ?_⟩
                by_cases e : u = x ∧ v = y
                · obtain ⟨rfl, rfl⟩ := e
                  rcases hr with z | z
                  · exact absurd z hne.1
                  · exact absurd z hne.2
                · exact hbr u v hu hv (by omega) hr
              have hyes : (p x = p y ∨ p2 x = p2 y) → wp (if b x ≤ b y then ag'' (nI (y + 1), t) else ag'' (nI (y + 1), st2 t 52 x (nI (b y)))) (EM (σ, nI (num (cn q) n)) M) := fun hrel => by
                have hqe : q x = q y := by
                  rcases hrel with z | z
                  · exact hj.1 x y hx hy z
                  · exact hj.2.1 x y hx hy z
                by_cases hle : b x ≤ b y
                · rw [if_pos hle]
                  refine ih'' t ⟨hf, b, hb, hbv, fun u v hu hv hd hr => ?_⟩
                  by_cases e : u = x ∧ v = y
                  · obtain ⟨rfl, rfl⟩ := e
                    omega
                  · exact hbr u v hu hv (by omega) hr
                · rw [if_neg hle]
                  refine ih'' _ ⟨hf.tr (Fr.st (by simp)), fun z => if z = x then b y else b z, fun z hz => ?_, fun z hz => ?_, fun u v hu hv hd hr => ?_⟩
                  · rw [st2_s]
                    by_cases e : z = x
                    · subst e; rw [upd_s]; dsimp only; rw [if_pos rfl]
                    · rw [upd_n e]; dsimp only; rw [if_neg e]; exact hb z hz
                  · by_cases e : z = x
                    · subst e; dsimp only; rw [if_pos rfl]
                      exact ⟨by omega, by rw [by'.2, hqe]⟩
                    · dsimp only; rw [if_neg e]; exact hbv z hz
                  · show (if u = x then b y else b u) ≤ a v
                    by_cases e : u = x
                    · rw [if_pos e]
                      by_cases e2 : v = y
                      · rw [e2]; omega
                      · have := hbr u v hu hv (by omega) hr
                        rw [e] at this; omega
                    · rw [if_neg e]
                      exact hbr u v hu hv (by omega) hr
              by_cases k1 : p x = p y
              · rw [if_pos k1]; exact hyes (Or.inl k1)
              · rw [if_neg k1]
                by_cases k2 : p2 x = p2 y
                · rw [if_pos k2]; exact hyes (Or.inr k2)
                · rw [if_neg k2]; exact hno ⟨k1, k2⟩
            · rintro t ag'' ⟨hf, b, hb, hbv, hbr⟩
              show wp (MD_join_L78 (nI x) _ ag'' (nI n) t) _
              unfold MD_join_L78
              rw [hf 33 (by decide), hn2, if_pos (by rw [nI_leI (by omega) (by omega)]; omega), show (1 : Int32) = nI 1 from rfl, nI_add]
              exact ih' t ⟨hf, b, hb, hbv, fun u v hu hv hr => hbr u v (by omega) hv (by omega) hr⟩
          · rintro t ag' ⟨hf, b, hb, hbv, hbr⟩
            show wp (MD_join_L66 _ ag' (nI n) t) _
            unfold MD_join_L66
            rw [hf 33 (by decide), hn2, if_pos (by rw [nI_leI (by omega) (by omega)]; omega), show (1 : Int32) = nI 1 from rfl, nI_add]
            have := cs_more hj hv hbv (fun x y hx hy hr => hbr x y hx hy hr)
            exact ih t ⟨hf, b, hb, fun x hx => ⟨Nat.le_trans (hbv x hx).1 (hv x hx).1, (hbv x hx).2⟩, by omega⟩
        · rintro t ag ⟨hf, a, ha, hv, hc⟩
          show wp (MD_join_L55 _ ag (nI n) t) _
          unfold MD_join_L55
          rw [hf 33 (by decide), hn2, if_pos (by rw [nI_leI (by omega) (by omega)]; omega)]
          refine wp_bnd2 (MD_number_wp (k := 52) (p := a) (by omega) (by omega) (by omega) rfl h7 (by rw [hf 33 (by decide)]; exact hn2) ha (fun x hx => by have := (hv x hx).1; omega)) (fun r M5 h5 => ?_)
          obtain ⟨f5, e5⟩ := h5
          have hfull := cs_full hc
          have ec : num (cn a) n = num (cn q) n := num_cg (cn_cg (fun x y hx hy => by
            rw [hfull x hx, hfull y hy]
            constructor
            · intro z
              rw [← fs_eq q x, ← fs_eq q y, z]
            · intro z; exact fs_same z))
          rw [show r = _ from e5, ec]
          have g3 : Fr SMR M2 M5 := (hf.mo (by decide)).tr (f5.mo SMR53)
          exact wp_some (em_ok (h2.fr g3) ((g1.tr g2).tr g3).lo)
    · simp only at e4
      rw [e3, e4, if_neg m1_nn]
      exact MD_no1 h2 (g1.tr g2).lo
  · simp only at e2
    rw [e, e2, if_pos m1_neg]
    exact MD_no1 h1 g1.lo
theorem SP_meet_wp {σ : Sg} {M : Mem} (v w : Int32) (hw : WF σ) (h : RC M σ) : wp (SP_meet v w M) (EC (R_meet σ v w) M) := by
  have hn : M 1 2 = nI σ.1 := h.1
  unfold SP_meet R_meet
  rw [hn]
  refine wp_bnd2 (Pa_readNumber_wp isP_26 hw.1 hw.2.1) (fun r M1 hr => ?_)
  obtain ⟨f1, hr⟩ := hr
  have g1 : Fr SCR M M1 := f1.mo SCR26
  have h1 := h.fr g1
  rw [jp_e]
  rcases hr with ⟨p, e, rfl, hp⟩ | ⟨e, rfl⟩
  · rw [e, if_neg one_ne0, show M1 1 2 = nI σ.1 from h1.1]
    refine wp_bnd2 (Pa_readNumber_wp isP_28 hw.1 hw.2.1) (fun r M2 hr => ?_)
    obtain ⟨f2, hr⟩ := hr
    have g2 : Fr SCR M1 M2 := f2.mo SCR28
    have h2 := h1.fr g2
    rcases hr with ⟨p2, e2, rfl, hp2⟩ | ⟨e2, rfl⟩
    · rw [e2, if_neg one_ne0]
      have hp' := hp.fr (f2 26 (by decide)) (f2 27 (by decide))
      have o1 := (opn_some e).1
      have o2 := (opn_some e2).1
      have h7 := hw.2.1
      have c1 : ∀ x, x < σ.1 → p x < 100 := fun x hx => by have := o1.ltn x hx; omega
      have c2 : ∀ x, x < σ.1 → p2 x < 100 := fun x hx => by have := o2.ltn x hx; omega
      refine wp_bind (Pa_cross_wp (Or.inr rfl) h7 hp'.1 hp'.2.2 hp2.2.2 c1 c2) (fun M4 hM4 => ?_)
      obtain ⟨f4, h4⟩ := hM4
      rw [Pa_number_eq isP_30 h7 h4, bind_s]
      dsimp only
      have ec : num (lb fun y x => p x == p y && p2 x == p2 y) σ.1 = num (cn (fun x => 10 * p x + p2 x)) σ.1 := by
        obtain ⟨m2, -, -, -, hm2⟩ := (opn_some e2).2
        unfold cn
        congr 1
        congr 1
        funext y x
        have l1 := dg_lt σ.1 m2 x
        have l2 := dg_lt σ.1 m2 y
        rw [← hm2] at l1 l2
        unfold eqr
        rw [Bool.eq_iff_iff, Bool.and_eq_true, beq_iff_eq, beq_iff_eq, beq_iff_eq]
        dsimp only
        omega
      rw [ec]
      have g4 : Fr SCR M2 M4 := f4.mo SCR30
      exact wp_some (ec_ok (h2.fr g4) ((g1.tr g2).tr g4).hi)
    · rw [e2, if_pos rfl]
      exact SP_no1 h2 (g1.tr g2).hi
  · rw [e, if_pos rfl]
    exact SP_no1 h1 g1.hi
theorem MD_meet_wp {σ : Sg} {M : Mem} (v w : Int32) (hw : WF σ) (h : RM M σ) : wp (MD_meet v w M) (EM (R_meet σ v w) M) := by
  have hn : M 33 8 = nI σ.1 := h.1
  have h7 : σ.1 ≤ 7 := hw.2.1
  unfold MD_meet R_meet
  refine wp_bnd2 (MD_opens_wp (Or.inl rfl) hw.1 hw.2.1 hn) (fun r M1 hr => ?_)
  obtain ⟨f1, hr⟩ := hr
  have g1 : Fr SMR M M1 := f1.mo SMR50
  have h1 := h.fr g1
  rw [jp_e]
  rcases hr with ⟨p, e, e2, hp⟩ | ⟨e, e2⟩
  · have ht := (opn_some e).1.top7
    simp only at e2
    rw [e, e2, if_neg (nI_pos (by omega))]
    refine wp_bnd2 (MD_opens_wp (Or.inr rfl) hw.1 hw.2.1 h1.1) (fun r M2 hr => ?_)
    obtain ⟨f2, hr⟩ := hr
    have g2 : Fr SMR M1 M2 := f2.mo SMR51
    have h2 := h1.fr g2
    rcases hr with ⟨p2, e3, e4, hp2⟩ | ⟨e3, e4⟩
    · have ht2 := (opn_some e3).1.top7
      simp only at e4
      rw [e3, e4, if_pos (nI_nn (by omega))]
      have hp' := hp.fr (f2 50 (by decide))
      have o1 := (opn_some e).1
      have o2 := (opn_some e3).1
      dsimp only at hp'
      dsimp only
      refine LOOP_up (fun x (t : Mem) => (nI x, t)) σ.1 (by omega) (fun x t => Fr [52] M2 t ∧ AR t 52 x (fun x => 10 * p x + p2 x)) (fun o => wp o _) ?_ ?_ 0 M2 (by omega) ⟨Fr.rf, fun j hj => by omega⟩
      · rintro x t ag hx ⟨hf, a⟩ ih
        show wp (MD_meet_L32 _ ag (nI x) t) _
        unfold MD_meet_L32
        have i7 : inb (nI x) 7 := (inb_nI (by omega)).mpr (by omega)
        rw [hf 33 (by decide), show M2 33 8 = nI σ.1 from h2.1, if_neg (by rw [nI_leI (by omega) (by omega)]; omega), if_pos i7, if_pos i7, if_pos i7, nm_e', wr_nI (by omega), rd_nI (by omega), rd_nI (by omega), hf 50 (by decide), hf 51 (by decide), hp' x hx, show M2 51 x = nI (p2 x) from hp2 x hx, show (10 : Int32) = nI 10 from rfl, show (1 : Int32) = nI 1 from rfl, pk_mul, nI_add, nI_add]
        refine ih _ ⟨hf.tr (Fr.st (by simp)), fun j hj => ?_⟩
        rw [st2_s]
        by_cases e : j = x
        · subst e; rw [upd_s]
        · rw [upd_n e]; exact a j (by omega)
      · rintro t ag ⟨hf, a⟩
        show wp (MD_meet_L32 _ ag (nI σ.1) t) _
        unfold MD_meet_L32
        rw [hf 33 (by decide), show M2 33 8 = nI σ.1 from h2.1, if_pos (by rw [nI_leI (by omega) (by omega)]; omega)]
        refine wp_bnd2 (MD_number_wp (k := 52) (p := fun x => 10 * p x + p2 x) (by omega) (by omega) (by omega) rfl h7 (by rw [hf 33 (by decide)]; exact h2.1) a (fun x hx => by have := o1.ltn x hx; have := o2.ltn x hx; omega)) (fun r M5 h5 => ?_)
        obtain ⟨f5, e5⟩ := h5
        rw [show r = _ from e5]
        have g3 : Fr SMR M2 M5 := (hf.mo (by decide)).tr (f5.mo SMR53)
        exact wp_some (em_ok (h2.fr g3) ((g1.tr g2).tr g3).lo)
    · simp only at e4
      rw [e3, e4, if_neg m1_nn]
      exact MD_no1 h2 (g1.tr g2).lo
  · simp only at e2
    rw [e, e2, if_pos m1_neg]
    exact MD_no1 h1 g1.lo
