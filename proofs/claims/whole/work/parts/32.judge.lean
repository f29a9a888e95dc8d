/-! by hand: judged; split till nothing splits -/
def jud (n : Nat) (bad : Nat → Nat → Bool) : Int32 :=
  let c := ff (fun c => decide (c / 8 < c % 8 ∧ c % 8 < n) && bad (c / 8) (c % 8)) 64
  if c < 64 then nI (10 * (c / 8) + c % 8) else -9
theorem jud_found {n x y : Nat} {bad : Nat → Nat → Bool} (h7 : n ≤ 7) (hx : x < y) (hy : y < n) (hb : bad x y = true) (h0 : ∀ u v, u < v → v < n → (u < x ∨ (u = x ∧ v < y)) → bad u v = false) : jud n bad = nI (10 * x + y) := by
  have e1 : (8 * x + y) / 8 = x := by omega
  have e2 : (8 * x + y) % 8 = y := by omega
  have e : ff (fun c => decide (c / 8 < c % 8 ∧ c % 8 < n) && bad (c / 8) (c % 8)) 64 = 8 * x + y := by
    refine ff_eq (by omega) ?_ (fun z hz => ?_)
    · rw [e1, e2, hb, decide_eq_true ⟨hx, hy⟩]; rfl
    · by_cases c : z / 8 < z % 8 ∧ z % 8 < n
      · rw [h0 (z / 8) (z % 8) c.1 c.2 (by omega), Bool.and_false]
      · rw [decide_eq_false c]; rfl
  unfold jud
  rw [e]
  dsimp only
  rw [if_pos (by omega), e1, e2]
theorem jud_none {n : Nat} {bad : Nat → Nat → Bool} (h : ∀ u v, u < v → v < n → bad u v = false) : jud n bad = -9 := by
  have e : ff (fun c => decide (c / 8 < c % 8 ∧ c % 8 < n) && bad (c / 8) (c % 8)) 64 = 64 := by
    refine ff_none (fun z hz => ?_)
    by_cases c : z / 8 < z % 8 ∧ z % 8 < n
    · rw [h (z / 8) (z % 8) c.1 c.2, Bool.and_false]
    · rw [decide_eq_false c]; rfl
  unfold jud
  rw [e]; rfl
/-- a pair of one part that is not so -/
def bdB (S : Nat → Nat) (n : Nat) (ma p : Nat → Nat) (kd x y : Nat) : Bool := p x == p y && !soB S n ma p kd x y
/-- what the class's town holds -/
def TW (M : Mem) (n : Nat) (ma S : Nat → Nat) : Prop := Tbl M 3 S ∧ M 1 2 = nI n ∧ AR M 2 7 ma
theorem TW.fr {M M' : Mem} {n : Nat} {ma S : Nat → Nat} {L : List Nat} (h : TW M n ma S) (hf : Fr L M M') (h1 : 1 ∉ L) (h2 : 2 ∉ L) (h3 : 3 ∉ L) : TW M' n ma S := ⟨h.1.fr (hf 3 h3), (congrFun (hf 1 h1) 2).trans h.2.1, h.2.2.fr (hf 2 h2)⟩
/-- marks, ties as they can be -/
def TWF (n : Nat) (ma S : Nat → Nat) : Prop := 1 ≤ n ∧ n ≤ 7 ∧ (∀ z, z < 7 → ma z ≤ 3) ∧ ∀ k x z, k < 3 → x < 7 → z < 7 → (x = z ∨ n ≤ x ∨ n ≤ z) → sg S k x z = 0
theorem TWF.d {n : Nat} {ma S : Nat → Nat} (h : TWF n ma S) : ∀ k x z, k < 3 → x < 7 → z < 7 → x = z → sg S k x z = 0 := fun k x z h1 h2 h3 h4 => h.2.2.2 k x z h1 h2 h3 (Or.inl h4)
theorem RGS.ltn {n : Nat} {p : Nat → Nat} (h : RGS n p) : ∀ z, z < n → p z < n := fun z hz => by have := h.lt hz; omega
set_option maxHeartbeats 1000000 in
theorem Sa_firstUnlike_wp {n kd : Nat} {p S ma : Nat → Nat} {M : Mem} (hw : TWF n ma S) (ht : TW M n ma S) (hp : AR M 27 n p) (hr : RGS n p) (hkd : kd < 5) : wp (Sa_firstUnlike (nI kd) M) (fun r => Fr [15] M r.2 ∧ r.1 = jud n (bdB S n ma p kd)) := by
  obtain ⟨w1, h7, w3, w4⟩ := id hw
  unfold Sa_firstUnlike
  refine wp_bind (Sa_look_wp isP_26 ht.1 ht.2.1 h7 hp hr.ltn hkd hw.d) (fun M1 hM1 => ?_)
  obtain ⟨f1, hv⟩ := hM1
  have ht1 := ht.fr f1 (by decide) (by decide) (by decide)
  have hp1 : AR M1 27 n p := hp.fr (f1 27 (by decide))
  have hp100 : ∀ z, z < n → p z < 100 := fun z hz => by have := hr.ltn z hz; omega
  refine LOOP_up (fun x (_ : Unit) => nI x) n (by omega) (fun x _ => ∀ u v, u < v → v < n → u < x → bdB S n ma p kd u v = false) (fun o => wp o _) ?_ ?_ 0 () (by omega) (fun u v _ _ h => by omega)
  · rintro x - ag hx hJ ih
    show wp (Sa_firstUnlike_L10 _ M1 _ ag (nI x)) _
    unfold Sa_firstUnlike_L10
    rw [ht1.2.1, if_neg (by rw [nI_leI (by omega) (by omega)]; omega), nm_e', show (1 : Int32) = nI 1 from rfl, nI_add]
    refine LOOP_up (fun y (_ : Unit) => nI y) n (by omega) (fun y _ => x < y ∧ ∀ u v, u < v → v < n → (u < x ∨ (u = x ∧ v < y)) → bdB S n ma p kd u v = false) (fun o => wp o _) ?_ ?_ (x + 1) () (by omega) ⟨by omega, fun u v h1 h2 h3 => hJ u v h1 h2 (by omega)⟩
    · rintro y - ag' hy ⟨hxy, hJ'⟩ ih'
      show wp (Sa_firstUnlike_L25 _ _ M1 _ ag' (nI y)) _
      unfold Sa_firstUnlike_L25
      rw [ht1.2.1, if_neg (by rw [nI_leI (by omega) (by omega)]; omega), Pa_together_eq isP_26 hp1 hp100 h7 hx hy, bind_s]
      simp only [cI_0]
      have hgo : bdB S n ma p kd x y = false → wp (ag' (nI y + 1)) (fun r => Fr [15] M r.2 ∧ r.1 = jud n (bdB S n ma p kd)) := fun hb => by
        rw [show (1 : Int32) = nI 1 from rfl, nI_add]
        refine ih' () ⟨by omega, fun u v h1 h2 h3 => ?_⟩
        by_cases e : u = x ∧ v = y
        · rw [e.1, e.2]; exact hb
        · exact hJ' u v h1 h2 (by omega)
      by_cases e : p x = p y
      · rw [if_neg (not_not_intro e), Sa_alike_eq ht1.1 ht1.2.1 h7 ht1.2.2 w3 hr.ltn hv hkd hx hy, bind_s]
        simp only [cI_0]
        by_cases s : soB S n ma p kd x y = true
        · rw [if_neg (not_not_intro s)]
          exact hgo (by unfold bdB; rw [s]; simp)
        · rw [if_pos s, show (10 : Int32) = nI 10 from rfl, pk_mul, nI_add]
          refine wp_some ⟨f1, ?_⟩
          exact (jud_found h7 hxy hy (by unfold bdB; rw [b_f s]; simp [e]) hJ').symm
      · rw [if_pos e]
        exact hgo (by unfold bdB; simp [e])
    · rintro - ag' ⟨-, hJ'⟩
      show wp (Sa_firstUnlike_L25 _ _ M1 _ ag' (nI n)) _
      unfold Sa_firstUnlike_L25
      rw [ht1.2.1, if_pos (by rw [nI_leI (by omega) (by omega)]; omega)]
      exact ih () (fun u v h1 h2 h3 => hJ' u v h1 h2 (by omega))
  · rintro - ag hJ
    show wp (Sa_firstUnlike_L10 _ M1 _ ag (nI n)) _
    unfold Sa_firstUnlike_L10
    rw [ht1.2.1, if_pos (by rw [nI_leI (by omega) (by omega)]; omega)]
    exact wp_some ⟨f1, (jud_none (fun u v h1 h2 => hJ u v h1 h2 (by omega))).symm⟩
/-- what the reference holds -/
def TM (M : Mem) (n : Nat) (ma S : Nat → Nat) : Prop := Tbl M 49 S ∧ M 33 8 = nI n ∧ AR M 35 7 ma
theorem TM.fr {M M' : Mem} {n : Nat} {ma S : Nat → Nat} {L : List Nat} (h : TM M n ma S) (hf : Fr L M M') (h1 : 33 ∉ L) (h2 : 35 ∉ L) (h3 : 49 ∉ L) : TM M' n ma S := ⟨h.1.fr (hf 49 h3), (congrFun (hf 33 h1) 8).trans h.2.1, h.2.2.fr (hf 35 h2)⟩
set_option maxHeartbeats 1000000 in
theorem MD_judged_eq {n kd : Nat} {p S ma : Nat → Nat} {M : Mem} (hw : TWF n ma S) (ht : TM M n ma S) (hp : AR M 50 n p) (hr : RGS n p) (hkd : kd < 5) : MD_judged (nI kd) M = some (jud n (bdB S n ma p kd)) := by
  obtain ⟨w1, h7, w3, w4⟩ := id hw
  have hp100 : ∀ z, z < n → p z < 100 := fun z hz => by have := hr.ltn z hz; omega
  obtain ⟨J, hJ0⟩ : ∃ J, J = jud n (bdB S n ma p kd) := ⟨_, rfl⟩
  rw [← hJ0]
  unfold MD_judged
  refine LOOP_up (fun x (_ : Unit) => nI x) n (by omega) (fun x _ => ∀ u v, u < v → v < n → u < x → bdB S n ma p kd u v = false) (fun o => o = some J) ?_ ?_ 0 () (by omega) (fun u v _ _ h => by omega)
  · rintro x - ag hx hJ ih
    show MD_judged_L2 _ M _ ag (nI x) = _
    unfold MD_judged_L2
    rw [ht.2.1, if_neg (by rw [nI_leI (by omega) (by omega)]; omega), nm_e', show (1 : Int32) = nI 1 from rfl, nI_add]
    refine LOOP_up (fun y (_ : Unit) => nI y) n (by omega) (fun y _ => x < y ∧ ∀ u v, u < v → v < n → (u < x ∨ (u = x ∧ v < y)) → bdB S n ma p kd u v = false) (fun o => o = some J) ?_ ?_ (x + 1) () (by omega) ⟨by omega, fun u v h1 h2 h3 => hJ u v h1 h2 (by omega)⟩
    · rintro y - ag' hy ⟨hxy, hJ'⟩ ih'
      show MD_judged_L14 _ _ M _ ag' (nI y) = _
      unfold MD_judged_L14
      have hgo : bdB S n ma p kd x y = false → ag' (nI y + 1) = some J := fun hb => by
        rw [show (1 : Int32) = nI 1 from rfl, nI_add]
        refine ih' () ⟨by omega, fun u v h1 h2 h3 => ?_⟩
        by_cases e : u = x ∧ v = y
        · rw [e.1, e.2]; exact hb
        · exact hJ' u v h1 h2 (by omega)
      have b1 := hp100 x hx
      have b2 := hp100 y hy
      rw [ht.2.1, if_neg (by rw [nI_leI (by omega) (by omega)]; omega), if_pos ((inb_nI (by omega)).mpr (by omega)), if_pos ((inb_nI (by omega)).mpr (by omega)), rd_nI (by omega), rd_nI (by omega), hp x hx, hp y hy]
      simp (disch := omega) only [nI_eq]
      by_cases e : p x = p y
      · rw [if_pos e, MD_areSo_eq ht.1 ht.2.1 h7 ht.2.2 w3 hp hp100 hkd (by omega) (by omega), bind_s]
        simp only [cI_0]
        by_cases s : soB S n ma p kd x y = true
        · rw [if_neg (not_not_intro s)]
          exact hgo (by unfold bdB; rw [s]; simp)
        · rw [if_pos s, show (10 : Int32) = nI 10 from rfl, pk_mul, nI_add]
          rw [hJ0, jud_found h7 hxy hy (by unfold bdB; rw [b_f s]; simp [e]) hJ']
      · rw [if_neg e]
        exact hgo (by unfold bdB; simp [e])
    · rintro - ag' ⟨hxy, hJ'⟩
      show MD_judged_L14 _ _ M _ ag' (nI n) = _
      unfold MD_judged_L14
      rw [ht.2.1, if_pos (by rw [nI_leI (by omega) (by omega)]; omega)]
      exact ih () (fun u v h1 h2 h3 => hJ' u v h1 h2 (by omega))
  · rintro - ag hJ
    show MD_judged_L2 _ M _ ag (nI n) = _
    unfold MD_judged_L2
    rw [ht.2.1, if_pos (by rw [nI_leI (by omega) (by omega)]; omega), hJ0, jud_none (fun u v h1 h2 => hJ u v h1 h2 (by omega))]
/-! splitting -/
def relB (S : Nat → Nat) (n : Nat) (ma : Nat → Nat) (kd : Nat) (p : Nat → Nat) (y x : Nat) : Bool := p x == p y && soB S n ma p kd y x
def spl (S : Nat → Nat) (n : Nat) (ma : Nat → Nat) (kd : Nat) (p : Nat → Nat) : Nat → Nat := lb (relB S n ma kd p)
def cstF (f : (Nat → Nat) → Nat → Nat) (n : Nat) : Nat → (Nat → Nat) → Nat → Nat
  | 0, p => p
  | k + 1, p => if top (f p) n = top p n then p else cstF f n k (f p)
theorem cstF_s (f : (Nat → Nat) → Nat → Nat) (n k : Nat) (p : Nat → Nat) : cstF f n (k + 1) p = if top (f p) n = top p n then p else cstF f n k (f p) := rfl
theorem nwr_mono (r : Nat → Nat → Bool) {a b : Nat} (h : a ≤ b) : nwr r a ≤ nwr r b := by
  induction b with
  | zero => have : a = 0 := by omega
            subst this; exact Nat.le_refl _
  | succ b ih =>
    by_cases e : a = b + 1
    · subst e; exact Nat.le_refl _
    · have := ih (by omega)
      show nwr r a ≤ nwr r b + if fr r b = b then 1 else 0
      omega
theorem lb_rt {r : Nat → Nat → Bool} {x y : Nat} (h : lb r x = lb r y) : rt r x = rt r y := by
  have key : ∀ a b, fr r a = a → fr r b = b → nwr r a = nwr r b → ¬ a < b := by
    intro a b ha hb e hab
    have h1 : nwr r (a + 1) = nwr r a + 1 := by
      show nwr r a + (if fr r a = a then 1 else 0) = _
      rw [if_pos ha]
    have h2 := nwr_mono r (show a + 1 ≤ b by omega)
    omega
  obtain ⟨-, -, a1, a2⟩ := rt_all r x
  obtain ⟨-, -, b1, b2⟩ := rt_all r y
  have h3 := key _ _ a1 b1 (by rw [← a2, ← b2, h])
  have h4 := key _ _ b1 a1 (by rw [← a2, ← b2, h])
  omega
theorem rt_same {r : Nat → Nat → Bool} {p : Nat → Nat} (h : ∀ y x, y < x → r y x = true → p y = p x) (x : Nat) : p (rt r x) = p x := by
  induction x using Nat.strongRecOn with
  | ind x ih =>
    by_cases c : fr r x < x
    · rw [rt_old c, ih _ c]
      exact h _ _ c (ff_sat (fun y => r y x) x c)
    · rw [rt_new c]
theorem spl_fine {S : Nat → Nat} {n : Nat} {ma : Nat → Nat} {kd : Nat} {p : Nat → Nat} {x y : Nat} (h : spl S n ma kd p x = spl S n ma kd p y) : p x = p y := by
  have hs : ∀ y x, y < x → relB S n ma kd p y x = true → p y = p x := fun y x _ hr => by
    unfold relB at hr
    simp only [Bool.and_eq_true, beq_iff_eq] at hr
    exact hr.1.symm
  rw [← rt_same hs x, ← rt_same hs y, lb_rt h]
theorem spl_RGS (S : Nat → Nat) (n : Nat) (ma : Nat → Nat) (kd : Nat) (p : Nat → Nat) : RGS n (spl S n ma kd p) := lb_RGS _ n
theorem cst_RGS {S : Nat → Nat} {n : Nat} {ma : Nat → Nat} {kd : Nat} : ∀ {k : Nat} {p : Nat → Nat}, RGS n p → RGS n (cstF (spl S n ma kd) n k p)
  | 0, _, h => h
  | k + 1, p, h => by
    rw [cstF_s]
    split
    · exact h
    · exact cst_RGS (spl_RGS S n ma kd p)
set_option maxHeartbeats 1000000 in
theorem Sa_split_wp {k2 k3 n kd : Nat} {p S ma : Nat → Nat} {M : Mem} (hk2 : isP k2) (hk3 : isP k3) (hne : k2 ≠ k3) (hw : TWF n ma S) (ht : TW M n ma S) (hp : AR M (k2 + 1) n p) (hr : RGS n p) (hkd : kd < 5) : wp (Sa_split k2 k3 (nI kd) M) (fun M' => Fr [15, k3, k3 + 1] M M' ∧ PT M' k3 n (spl S n ma kd p)) := by
  obtain ⟨w1, h7, w3, w4⟩ := id hw
  have hd : k2 ≠ k3 ∧ k2 + 1 ≠ k3 ∧ k2 ≠ k3 + 1 ∧ k2 + 1 ≠ k3 + 1 ∧ k2 + 1 ≠ 15 ∧ 1 ∉ [15, k3, k3 + 1] ∧ 2 ∉ [15, k3, k3 + 1] ∧ 3 ∉ [15, k3, k3 + 1] ∧ 15 ∉ [k3, k3 + 1] := by
    rcases isP_3 hk2 with rfl | rfl | rfl <;> rcases isP_3 hk3 with rfl | rfl | rfl <;> simp at hne ⊢
  have hp100 : ∀ z, z < n → p z < 100 := fun z hz => by have := hr.ltn z hz; omega
  unfold Sa_split
  refine wp_bind (Sa_look_wp hk2 ht.1 ht.2.1 h7 hp hr.ltn hkd hw.d) (fun M1 hM1 => ?_)
  obtain ⟨f1, hv⟩ := hM1
  have ht1 := ht.fr f1 (by decide) (by decide) (by decide)
  have hp1 : AR M1 (k2 + 1) n p := hp.fr (f1 _ (by simp; omega))
  rw [ht1.2.1]
  refine wp_bind Pa_begin_eq (fun M2 hM2 => ?_)
  obtain ⟨f2, e1, e2⟩ := hM2
  let r := relB S n ma kd p
  refine LOOP_up (fun x (t : Mem) => (nI x, t)) n (by omega) (fun x t => Fr [k3, k3 + 1] M1 t ∧ t k3 1 = nI n ∧ t k3 2 = nI (nwr r x) ∧ AR t (k3 + 1) x (lb r)) (fun o => wp o _) ?_ ?_ 0 M2 (by omega) ⟨f2.mo (by simp), e1, e2, fun j hj => by omega⟩
  · rintro x t ag hx ⟨hf, a1, a2, a3⟩ ih
    show wp (Sa_split_L19 k2 k3 (nI kd) _ ag (nI x) t) _
    unfold Sa_split_L19
    have htt : TW t n ma S := ht1.fr hf (by have := hd.2.2.2.2.2.1; simp at this ⊢; omega) (by have := hd.2.2.2.2.2.2.1; simp at this ⊢; omega) (by have := hd.2.2.2.2.2.2.2.1; simp at this ⊢; omega)
    have hpt : AR t (k2 + 1) n p := hp1.fr (hf _ (by simp; omega))
    have hvt : 3 ≤ kd → VW t n p S (kd == 4) (fun _ _ _ => true) := fun h3 => by
      have := hv h3
      unfold VW at this ⊢
      rw [hf 15 hd.2.2.2.2.2.2.2.2]; exact this
    rw [htt.2.1, if_neg (by rw [nI_leI (by omega) (by omega)]; omega)]
    refine LOOP_up (fun y (a : Int32) => (a, nI y)) x (by omega) (fun y a => (a = -1 ∧ ∀ z, z < y → r z x = false) ∨ (∃ f, a = nI f ∧ f < y ∧ f = fr r x)) (fun o => wp o _) ?_ ?_ 0 (-1) (by omega) (Or.inl ⟨rfl, fun z hz => by omega⟩)
    · intro y a ag' hy hJ ih'
      show wp (Sa_split_L34 k2 (nI kd) (nI x) t _ ag' a (nI y)) _
      unfold Sa_split_L34
      rw [if_neg (by rw [nI_leI (by omega) (by omega)]; omega)]
      refine wp_ite (fun hc => ?_) (fun hc => ?_)
      · refine wp_bind (Pa_place_wp hk3 (by omega) a3 a2 (frI (y := y) (Or.inr (fun e => m1_nn (e ▸ hc))) (by omega) hJ)) (fun M3 hM3 => ?_)
        obtain ⟨c1, c2, c3, c4⟩ := hM3
        rw [show (1 : Int32) = nI 1 from rfl, nI_add]
        exact ih M3 ⟨hf.tr c1, c2.trans a1, c4, c3⟩
      · have hn : a = -1 ∧ ∀ z, z < y → r z x = false := by
          rcases hJ with z | ⟨f, e, hfy, -⟩
          · exact z
          · subst e
            exact absurd (nI_pos' (by omega)) hc
        rw [Pa_together_eq hk2 hpt hp100 h7 hx (by omega), bind_s]
        simp only [cI_0]
        have hno : r y x = false → wp (ag' (a, nI y + 1)) (fun M' => Fr [15, k3, k3 + 1] M M' ∧ PT M' k3 n (spl S n ma kd p)) := fun hr => by
          rw [show (1 : Int32) = nI 1 from rfl, nI_add]
          refine ih' a (Or.inl ⟨hn.1, fun z hz => ?_⟩)
          by_cases e : z = y
          · subst e; exact hr
          · exact hn.2 z (by omega)
        by_cases e : p x = p y
        · rw [if_neg (not_not_intro e), Sa_alike_eq htt.1 htt.2.1 h7 htt.2.2 w3 hr.ltn hvt hkd (by omega) hx, bind_s]
          simp only [cI_0]
          by_cases s : soB S n ma p kd y x = true
          · rw [if_neg (not_not_intro s), show (1 : Int32) = nI 1 from rfl, nI_add]
            refine ih' (nI y) (Or.inr ⟨y, rfl, by omega, ?_⟩)
            have hr : r y x = true := by show relB S n ma kd p y x = true; unfold relB; simp [e, s]
            exact (ff_eq hy hr hn.2).symm
          · rw [if_pos s]
            exact hno (by show relB S n ma kd p y x = false; unfold relB; simp [b_f s])
        · rw [if_pos e]
          exact hno (by show relB S n ma kd p y x = false; unfold relB; simp [e])
    · intro a ag' hJ
      show wp (Sa_split_L34 k2 (nI kd) (nI x) t _ ag' a (nI x)) _
      unfold Sa_split_L34
      rw [if_pos (by rw [nI_leI (by omega) (by omega)]; omega)]
      refine wp_bind (Pa_place_wp hk3 (by omega) a3 a2 (frI (Or.inl rfl) (by omega) hJ)) (fun M3 hM3 => ?_)
      obtain ⟨c1, c2, c3, c4⟩ := hM3
      rw [show (1 : Int32) = nI 1 from rfl, nI_add]
      exact ih M3 ⟨hf.tr c1, c2.trans a1, c4, c3⟩
  · rintro t ag ⟨hf, a1, a2, a3⟩
    show wp (Sa_split_L19 k2 k3 (nI kd) _ ag (nI n) t) _
    unfold Sa_split_L19
    have h11 : t 1 2 = nI n := by rw [hf 1 (by have := hd.2.2.2.2.2.1; simp at this ⊢; omega)]; exact ht1.2.1
    rw [h11, if_pos (by rw [nI_leI (by omega) (by omega)]; omega)]
    exact wp_some ⟨(f1.mo (by simp)).tr (hf.mo (by simp)), a1, by rw [a2]; exact congrArg nI (lb_top r n).1.symm, a3⟩
theorem Sa_refine_wp {k2 k3 n kd : Nat} {p S ma : Nat → Nat} {M : Mem} (hk2 : isP k2) (hk3 : isP k3) (hne : k2 ≠ k3) (hw : TWF n ma S) (ht : TW M n ma S) (hp : PT M k2 n p) (hr : RGS n p) (hkd : kd < 5) : wp (Sa_refine k2 k3 (nI kd) M) (fun M' => Fr [15, k2, k2 + 1, k3, k3 + 1] M M' ∧ PT M' k2 n (cstF (spl S n ma kd) n 7 p)) := by
  obtain ⟨w1, h7, w3, w4⟩ := id hw
  have hd : k2 ∉ [15, k3, k3 + 1] ∧ k2 + 1 ∉ [15, k3, k3 + 1] ∧ 1 ∉ [15, k2, k2 + 1, k3, k3 + 1] ∧ 2 ∉ [15, k2, k2 + 1, k3, k3 + 1] ∧ 3 ∉ [15, k2, k2 + 1, k3, k3 + 1] := by
    rcases isP_3 hk2 with rfl | rfl | rfl <;> rcases isP_3 hk3 with rfl | rfl | rfl <;> simp at hne ⊢
  unfold Sa_refine
  refine LOOP_up (fun i (t : Mem) => (nI i, t)) 7 (by omega) (fun i t => Fr [15, k2, k2 + 1, k3, k3 + 1] M t ∧ ∃ q, RGS n q ∧ PT t k2 n q ∧ cstF (spl S n ma kd) n (7 - i) q = cstF (spl S n ma kd) n 7 p) (fun o => wp o _) ?_ ?_ 0 M (by omega) ⟨Fr.rf, p, hr, hp, rfl⟩
  · rintro i t ag hi ⟨hf, q, hq, hpt, hc⟩ ih
    show wp (Sa_refine_L3 k2 k3 (nI kd) _ ag (nI i) t) _
    unfold Sa_refine_L3
    have htt : TW t n ma S := ht.fr hf hd.2.2.1 hd.2.2.2.1 hd.2.2.2.2
    rw [if_neg (by rw [show (7 : Int32) = nI 7 from rfl, nI_leI (by omega) (by omega)]; omega)]
    refine wp_bind (Sa_split_wp hk2 hk3 hne hw htt hpt.2.2 hq hkd) (fun M2 hM2 => ?_)
    obtain ⟨f2, hp2⟩ := hM2
    have hq2 : PT M2 k2 n q := hpt.fr (f2 _ hd.1) (f2 _ hd.2.1)
    have t1 := hq.top7
    have t2 := (spl_RGS S n ma kd q).top7
    rw [show 7 - i = (7 - (i + 1)) + 1 by omega, cstF_s] at hc
    rw [hp2.2.1, hq2.2.1]
    simp (disch := omega) only [nI_eq]
    by_cases e : top (spl S n ma kd q) n = top q n
    · rw [if_pos e]
      rw [if_pos e] at hc
      rw [← hc]
      exact wp_some ⟨hf.tr (f2.mo (by simp)), hq2⟩
    · rw [if_neg e]
      rw [if_neg e] at hc
      refine wp_bind (Pa_copy_wp hk2 hk3 hne h7 hp2) (fun M3 hM3 => ?_)
      obtain ⟨f3, hp3⟩ := hM3
      rw [show (1 : Int32) = nI 1 from rfl, nI_add]
      exact ih M3 ⟨(hf.tr (f2.mo (by simp))).tr (f3.mo (by simp)), _, spl_RGS S n ma kd q, hp3, hc⟩
  · rintro t ag ⟨hf, q, hq, hpt, hc⟩
    show wp (Sa_refine_L3 k2 k3 (nI kd) _ ag (nI 7) t) _
    unfold Sa_refine_L3
    rw [if_pos (by decide)]
    rw [← hc]
    exact wp_some ⟨hf, hpt⟩
