/-! by hand: wrong: ties tallied by parts; the reference counts them anew -/
def tl (S : Nat → Nat) (n : Nat) (p : Nat → Nat) (k a b : Nat) : Nat := sm n (fun x => if p x = a then ct S n p k x b else 0)
def slA (n : Nat) (p : Nat → Nat) (a b : Nat) : Nat := sm n (fun x => if p x = a then slt n p x b else 0)
def mf (S : Nat → Nat) (n : Nat) (p : Nat → Nat) (k a b : Nat) : Nat := min (tl S n p k a b) (slA n p a b - tl S n p k a b)
def wrg (S : Nat → Nat) (n : Nat) (p : Nat → Nat) : Nat := sm n (fun a => sm n (fun b => sm 3 (fun k => mf S n p k a b)))
def dg0 (S : Nat → Nat) (n : Nat) : Prop := ∀ k x, k < 3 → x < n → sg S k x x = 0
theorem sm_mulc {n a c : Nat} {p : Nat → Nat} : sm n (fun x => if p x = a then c else 0) = szP n p a * c := by
  unfold szP
  induction n with
  | zero => simp [sm]
  | succ n ih =>
    rw [sm_s, sm_s, ih, Nat.add_mul]
    split <;> omega
theorem slA_eq {n a b : Nat} {p : Nat → Nat} : slA n p a b = szP n p a * (szP n p b - if a = b then 1 else 0) := by
  unfold slA
  rw [← sm_mulc]
  refine sm_cg fun x hx => ?_
  by_cases e : p x = a
  · rw [if_pos e, if_pos e, slt_eq hx, e]
  · rw [if_neg e, if_neg e]
theorem tl_le {S : Nat → Nat} {n : Nat} {p : Nat → Nat} {k a b : Nat} (hk : k < 3) (h0 : dg0 S n) : tl S n p k a b ≤ slA n p a b := by
  refine sm_mono fun x hx => ?_
  by_cases e : p x = a
  · rw [if_pos e, if_pos e]; exact ct_slt (h0 k x hk hx)
  · rw [if_neg e, if_neg e]; exact Nat.le_refl _
theorem sl49 {n a b : Nat} {p : Nat → Nat} (h7 : n ≤ 7) : slA n p a b ≤ 49 := by
  rw [slA_eq]
  have h1 := szP_le (n := n) (p := p) (b := a)
  have h2 := szP_le (n := n) (p := p) (b := b)
  have := Nat.mul_le_mul (show szP n p a ≤ 7 by omega) (show szP n p b - (if a = b then 1 else 0) ≤ 7 by omega)
  omega
/-- the tallies of the class -/
def TLY (M : Mem) (n : Nat) (p S : Nat → Nat) : Prop := (∀ k a b, k < 3 → a < 7 → b < 7 → M 21 (49 * k + 7 * a + b) = nI (tl S n p k a b)) ∧ ∀ a, a < 7 → M 22 a = nI (szP n p a)
theorem SP_cell_nI (k a b : Nat) : SP_cell (nI k) (nI a) (nI b) = some (nI (49 * k + 7 * a + b)) := by
  unfold SP_cell
  rw [show (7 : Int32) = nI 7 from rfl]
  simp only [pk_mul, nI_add]
  congr 2; omega
set_option maxHeartbeats 1000000 in
theorem Bl_tallyTies_wp {S : Nat → Nat} {n : Nat} {p : Nat → Nat} {M : Mem} (h : Tbl M 3 S) (hn : M 1 2 = nI n) (h7 : n ≤ 7) (hp : AR M 27 n p) (hp7 : ∀ z, z < n → p z < 7) : wp (Bl_tallyTies M) (fun M' => Fr [21, 22] M M' ∧ TLY M' n p S) := by
  have ha : aln 21 = 147 := rfl
  have hb : aln 22 = 7 := rfl
  unfold Bl_tallyTies
  refine wp_bind (SP_wipe_eq (by omega)) (fun M1 hM1 => ?_)
  obtain ⟨f1, z1⟩ := hM1
  refine wp_bind (SP_wipe_eq (by omega)) (fun M2 hM2 => ?_)
  obtain ⟨f2, z2⟩ := hM2
  refine LOOP_up (fun x (t : Mem) => (nI x, t)) n (by omega) (fun x t => Fr [21, 22] M t ∧ (∀ k a b, k < 3 → a < 7 → b < 7 → t 21 (49 * k + 7 * a + b) = nI (sm x (fun x => if p x = a then ct S n p k x b else 0))) ∧ ∀ a, a < 7 → t 22 a = nI (sm x (fun x => if p x = a then 1 else 0))) (fun o => wp o _) ?_ ?_ 0 M2 (by omega) ⟨(f1.mo (by simp)).tr (f2.mo (by simp)), fun k a b hk ha' hb' => ?_, fun a ha' => ?_⟩
  · rintro x t ag hx ⟨hf, ht1, ht2⟩ ih
    have hpx := hp7 x hx
    show wp (Bl_tallyTies_L16 _ ag (nI x) t) _
    unfold Bl_tallyTies_L16
    rw [hf 1 (by decide), hn, if_neg (by rw [nI_leI (by omega) (by omega)]; omega), Pa_of_nI isP_26 (by omega), bind_s, hf 27 (by decide), hp x hx, SP_addTo_nI (by omega) (by omega), bind_s]
    have hs22 : ∀ a, a < 7 → st2 t 22 (p x) (t 22 (p x) + 1) 22 a = nI (sm (x + 1) (fun x => if p x = a then 1 else 0)) := fun a ha' => by
      rw [st2_s, sm_s]
      by_cases e : a = p x
      · subst e; rw [upd_s, ht2 _ hpx, if_pos rfl, nI_1]
      · rw [upd_n e, ht2 a ha', if_neg (fun z => e z.symm), Nat.add_zero]
    refine LOOP_up (fun z (t : Mem) => (nI z, t)) n (by omega) (fun z t => Fr [21, 22] M t ∧ (∀ k a b, k < 3 → a < 7 → b < 7 → t 21 (49 * k + 7 * a + b) = nI (sm x (fun x => if p x = a then ct S n p k x b else 0) + if p x = a then sm z (fun z => if p z = b ∧ 0 < sg S k x z then 1 else 0) else 0)) ∧ ∀ a, a < 7 → t 22 a = nI (sm (x + 1) (fun x => if p x = a then 1 else 0))) (fun o => wp o _) ?_ ?_ 0 _ (by omega) ⟨hf.tr (Fr.st (by simp)), fun k a b hk ha' hb' => ?_, hs22⟩
    · rintro z t ag' hz ⟨hf, ht1, ht2⟩ ih'
      have hpz := hp7 z hz
      show wp (Bl_tallyTies_L40 (nI x) _ ag' (nI z) t) _
      unfold Bl_tallyTies_L40
      rw [hf 1 (by decide), hn, if_neg (by rw [nI_leI (by omega) (by omega)]; omega)]
      refine LOOP_up (fun k (t : Mem) => (nI k, t)) 3 (by omega) (fun k0 t => Fr [21, 22] M t ∧ (∀ k a b, k < 3 → a < 7 → b < 7 → t 21 (49 * k + 7 * a + b) = nI (sm x (fun x => if p x = a then ct S n p k x b else 0) + (if p x = a then sm z (fun z => if p z = b ∧ 0 < sg S k x z then 1 else 0) else 0) + if k < k0 ∧ p x = a ∧ p z = b ∧ 0 < sg S k x z then 1 else 0)) ∧ ∀ a, a < 7 → t 22 a = nI (sm (x + 1) (fun x => if p x = a then 1 else 0))) (fun o => wp o _) ?_ ?_ 0 _ (by omega) ⟨hf, fun k a b hk ha' hb' => ?_, ht2⟩
      · rintro k0 t ag'' hk0 ⟨hf, ht1, ht2⟩ ih''
        show wp (Bl_tallyTies_L52 (nI x) (nI z) _ ag'' (nI k0) t) _
        unfold Bl_tallyTies_L52
        rw [if_neg (by rw [show (3 : Int32) = nI 3 from rfl, nI_leI (by omega) (by omega)]; omega), To_tied_eq (h.fr (hf 3 (by decide))) hk0 (by omega) (by omega), bind_s]
        simp only [cI_0]
        by_cases c : 0 < sg S k0 x z
        · rw [if_neg (not_not_intro c), Pa_of_nI isP_26 (by omega), Pa_of_nI isP_26 (by omega), bind_s, bind_s, hf 27 (by decide), hp x hx, hp z hz, SP_cell_nI, bind_s, SP_addTo_nI (by omega) (by omega), bind_s, show nI k0 + 1 = nI (k0 + 1) from nI_1 k0]
          refine ih'' _ ⟨hf.tr (Fr.st (by simp)), fun k a b hk ha' hb' => ?_, fun a ha' => by rw [st2_n (by decide)]; exact ht2 a ha'⟩
          rw [st2_s]
          by_cases e : 49 * k + 7 * a + b = 49 * k0 + 7 * p x + p z
          · obtain ⟨rfl, rfl, rfl⟩ := ix_inj hpx hpz ha' hb' e
            rw [upd_s, ht1 _ _ _ hk ha' hb', nI_1, if_neg (fun w : k < k ∧ _ => by omega), if_pos (show k < k + 1 ∧ p x = p x ∧ p z = p z ∧ 0 < sg S k x z from ⟨by omega, rfl, rfl, c⟩)]
          · rw [upd_n e, ht1 _ _ _ hk ha' hb']
            congr 2
            refine ite_congr (propext ?_) (fun _ => rfl) (fun _ => rfl)
            constructor
            · rintro ⟨q1, q2⟩; exact ⟨by omega, q2⟩
            · rintro ⟨q1, q2, q3, q4⟩
              refine ⟨?_, q2, q3, q4⟩
              by_cases e2 : k = k0
              · subst e2; exact absurd (by rw [q2, q3]) e
              · omega
        · rw [if_pos c, show nI k0 + 1 = nI (k0 + 1) from nI_1 k0]
          refine ih'' _ ⟨hf, fun k a b hk ha' hb' => ?_, ht2⟩
          rw [ht1 _ _ _ hk ha' hb']
          congr 2
          refine ite_congr (propext ?_) (fun _ => rfl) (fun _ => rfl)
          constructor
          · rintro ⟨q1, q2⟩; exact ⟨by omega, q2⟩
          · rintro ⟨q1, q2, q3, q4⟩
            refine ⟨?_, q2, q3, q4⟩
            by_cases e2 : k = k0
            · subst e2; exact absurd q4 c
            · omega
      · rintro t ag'' ⟨hf, ht1, ht2⟩
        show wp (Bl_tallyTies_L52 (nI x) (nI z) _ ag'' (nI 3) t) _
        unfold Bl_tallyTies_L52
        rw [if_pos (by decide), show (1 : Int32) = nI 1 from rfl, nI_add]
        refine ih' _ ⟨hf, fun k a b hk ha' hb' => ?_, ht2⟩
        rw [ht1 _ _ _ hk ha' hb', sm_s]
        congr 1
        by_cases c1 : p x = a
        · rw [if_pos c1, if_pos c1, Nat.add_assoc]
          congr 2
          refine ite_congr (propext ?_) (fun _ => rfl) (fun _ => rfl)
          exact ⟨fun w => w.2.2, fun w => ⟨hk, c1, w⟩⟩
        · rw [if_neg c1, if_neg c1, if_neg (fun w => c1 w.2.1)]
      · rw [ht1 _ _ _ hk ha' hb', if_neg (fun w : k < 0 ∧ _ => by omega), Nat.add_zero]
    · rintro t ag' ⟨hf, ht1, ht2⟩
      show wp (Bl_tallyTies_L40 (nI x) _ ag' (nI n) t) _
      unfold Bl_tallyTies_L40
      rw [hf 1 (by decide), hn, if_pos (by rw [nI_leI (by omega) (by omega)]; omega), show (1 : Int32) = nI 1 from rfl, nI_add]
      refine ih _ ⟨hf, fun k a b hk ha' hb' => ?_, ht2⟩
      rw [ht1 _ _ _ hk ha' hb', sm_s]
      rfl
    · rw [st2_n (by decide), ht1 _ _ _ hk ha' hb']
      congr 1
      show _ = _ + if p x = a then 0 else 0
      rw [ite_self, Nat.add_zero]
  · rintro t ag ⟨hf, ht1, ht2⟩
    show wp (Bl_tallyTies_L16 _ ag (nI n) t) _
    unfold Bl_tallyTies_L16
    rw [hf 1 (by decide), hn, if_pos (by rw [nI_leI (by omega) (by omega)]; omega)]
    exact wp_some ⟨hf, ht1, ht2⟩
  · rw [f2 21 (by decide), z1, if_pos (by omega)]; rfl
  · rw [z2, if_pos (by omega)]; rfl
theorem Bl_misfit_eq {S : Nat → Nat} {n k a b t : Nat} {e : Int32} {p : Nat → Nat} {M : Mem} (h : TLY M n p S) (h7 : n ≤ 7) (hk : k < 3) (ha : a < 7) (hb : b < 7) (he : nI (tl S n p k a b) + e = nI t) (ht : t ≤ slA n p a b) : Bl_misfit (nI k) (nI a) (nI b) e M = some (nI (min t (slA n p a b - t))) := by
  have l1 := sl49 (n := n) (a := a) (b := b) (p := p) h7
  have l2 : aln 21 = 147 := rfl
  have l3 : aln 22 = 7 := rfl
  have hsb := szP_le (n := n) (p := p) (b := b)
  unfold Bl_misfit
  rw [SP_cell_nI, bind_s, SP_at_nI (by omega) (by omega), bind_s, SP_at_nI (by omega) (by omega), SP_at_nI (by omega) (by omega), h.1 k a b hk ha hb, he, h.2 a ha, h.2 b hb, nm_e', bind_s, bind_s, jp_e]
  have key : ∀ d : Nat, d = (if a = b then 1 else 0) → szP n p a ≠ 0 → (nm (nI (szP n p a) * (nI (szP n p b) - nI d)) fun (v6_1 : Int32) => some (jmin (nI t) (v6_1 - nI t))) = some (nI (min t (slA n p a b - t))) := fun d hd h0 => by
    have hdb : d ≤ szP n p b := by
      rw [hd]
      split
      · rename_i e; rw [← e]; omega
      · omega
    rw [nm_e', nI_sub hdb, pk_mul, hd, ← slA_eq, nI_sub ht, jmin_nI (by omega) (by omega)]
  have key0 : ∀ d : Int32, szP n p a = 0 → (nm (nI (szP n p a) * (nI (szP n p b) - d)) fun (v6_1 : Int32) => some (jmin (nI t) (v6_1 - nI t))) = some (nI (min t (slA n p a b - t))) := fun d h0 => by
    have e0 : slA n p a b = 0 := by rw [slA_eq, h0, Nat.zero_mul]
    have t0 : t = 0 := by omega
    rw [e0, t0, h0, nm_e', show nI 0 * (nI (szP n p b) - d) = 0 from Int32.zero_mul]
    rfl
  simp (disch := omega) only [nI_eq]
  by_cases h0 : szP n p a = 0
  · split
    · exact key0 _ h0
    · exact key0 _ h0
  · by_cases e : a = b
    · rw [if_pos e]; exact key 1 (by rw [if_pos e]) h0
    · rw [if_neg e]; exact key 0 (by rw [if_neg e]) h0
theorem mf_le {S : Nat → Nat} {n : Nat} {p : Nat → Nat} {k a b : Nat} (h7 : n ≤ 7) : mf S n p k a b ≤ 49 := by
  have := sl49 (n := n) (a := a) (b := b) (p := p) h7
  unfold mf; omega
theorem szP_0 {n a : Nat} {p : Nat → Nat} (h : ∀ x, x < n → p x ≠ a) : szP n p a = 0 := by
  unfold szP
  rw [sm_cg (g := fun _ => 0) (fun x hx => if_neg (h x hx)), sm_0]
theorem mf_0 {S : Nat → Nat} {n : Nat} {p : Nat → Nat} {k a b : Nat} (h : szP n p a = 0 ∨ szP n p b = 0) : mf S n p k a b = 0 := by
  have : slA n p a b = 0 := by
    rw [slA_eq]
    rcases h with e | e
    · rw [e, Nat.zero_mul]
    · rw [e, Nat.zero_sub, Nat.mul_zero]
  unfold mf; omega
theorem sm_cut {n m : Nat} {f : Nat → Nat} (hm : m ≤ n) (h : ∀ x, m ≤ x → x < n → f x = 0) : sm n f = sm m f := by
  induction n with
  | zero => have : m = 0 := by omega
            subst this; rfl
  | succ n ih =>
    by_cases e : m = n + 1
    · subst e; rfl
    · rw [sm_s, h n (by omega) (by omega), ih (by omega) (fun x h1 h2 => h x h1 (by omega))]; rfl
theorem wrg_cls {S : Nat → Nat} {n : Nat} {p : Nat → Nat} (hr : RGS n p) : wrg S n p = sm 3 (fun k => sm (top p n) (fun a => sm (top p n) (fun b => mf S n p k a b))) := by
  have ht := hr.top7
  have hz : ∀ a, top p n ≤ a → szP n p a = 0 := fun a h => szP_0 (fun x hx e => by have := top_gt (p := p) hx; omega)
  unfold wrg
  rw [sm_cut ht (fun a h1 h2 => by
    rw [sm_cg (g := fun _ => 0) (fun b _ => by
      rw [sm_cg (g := fun _ => 0) (fun k _ => mf_0 (Or.inl (hz a h1))), sm_0]), sm_0])]
  rw [sm_cg (g := fun a => sm 3 (fun k => sm (top p n) (fun b => mf S n p k a b))) (fun a _ => by
    rw [sm_cut ht (fun b h1 h2 => by
      rw [sm_cg (g := fun _ => 0) (fun k _ => mf_0 (Or.inr (hz b h1))), sm_0]), sm_swap])]
  exact sm_swap
theorem Bl_misfits_wp {S : Nat → Nat} {n : Nat} {p : Nat → Nat} {M : Mem} (h : Tbl M 3 S) (hn : M 1 2 = nI n) (h7 : n ≤ 7) (hp : PT M 26 n p) (hr : RGS n p) (h0 : dg0 S n) : wp (Bl_misfits M) (fun r => Fr [21, 22] M r.2 ∧ r.1 = nI (wrg S n p)) := by
  have ht := hr.top7
  unfold Bl_misfits
  refine wp_bind (Bl_tallyTies_wp h hn h7 hp.2.2 (fun z hz => by have := hr.ltn z hz; omega)) (fun M1 hM1 => ?_)
  obtain ⟨f1, hT⟩ := hM1
  have h26 : M1 26 2 = nI (top p n) := by rw [f1 26 (by decide)]; exact hp.2.1
  refine ⟨(nI (wrg S n p), M1), ?_, f1, rfl⟩
  rw [wrg_cls hr]
  refine LOOP_fun (fun k => (nI (sm k (fun k => sm (top p n) (fun a => sm (top p n) (fun b => mf S n p k a b)))), nI k)) 3 (by omega) (fun _ => some (nI (sm 3 (fun k => sm (top p n) (fun a => sm (top p n) (fun b => mf S n p k a b)))), M1)) ?_ ?_ 0 (Nat.zero_le _)
  · intro k ag hk ih
    show Bl_misfits_L11 M1 _ ag _ (nI k) = _
    unfold Bl_misfits_L11
    rw [if_neg (by rw [show (3 : Int32) = nI 3 from rfl, nI_leI (by omega) (by omega)]; omega), ← ih]
    refine LOOP_fun (fun a => (nI (sm k (fun k => sm (top p n) (fun a => sm (top p n) (fun b => mf S n p k a b))) + sm a (fun a => sm (top p n) (fun b => mf S n p k a b))), nI a)) (top p n) (by omega) (fun _ => _) ?_ ?_ 0 (Nat.zero_le _)
    · intro a ag' ha ih'
      show Bl_misfits_L20 (nI k) M1 _ ag' _ (nI a) = _
      unfold Bl_misfits_L20
      rw [h26, if_neg (by rw [nI_leI (by omega) (by omega)]; omega), ← ih']
      refine LOOP_fun (fun b => (nI (sm k (fun k => sm (top p n) (fun a => sm (top p n) (fun b => mf S n p k a b))) + sm a (fun a => sm (top p n) (fun b => mf S n p k a b)) + sm b (fun b => mf S n p k a b)), nI b)) (top p n) (by omega) (fun _ => _) ?_ ?_ 0 (Nat.zero_le _)
      · intro b ag'' hb ih''
        show Bl_misfits_L32 (nI k) (nI a) M1 _ ag'' _ (nI b) = _
        unfold Bl_misfits_L32
        rw [h26, if_neg (by rw [nI_leI (by omega) (by omega)]; omega), Bl_misfit_eq (e := 0) hT h7 hk (by omega) (by omega) (add0 _) (tl_le hk h0), bind_s, nm_e', nI_add, nI_1, ← ih'']
        rw [sm_s, Nat.add_assoc]
        rfl
      · intro ag''
        show Bl_misfits_L32 (nI k) (nI a) M1 _ ag'' _ (nI (top p n)) = _
        unfold Bl_misfits_L32
        rw [h26, if_pos (by rw [nI_leI (by omega) (by omega)]; omega), nI_1, sm_s, Nat.add_assoc]
    · intro ag'
      show Bl_misfits_L20 (nI k) M1 _ ag' _ (nI (top p n)) = _
      unfold Bl_misfits_L20
      rw [h26, if_pos (by rw [nI_leI (by omega) (by omega)]; omega), nI_1, sm_s]
  · intro ag
    show Bl_misfits_L11 M1 _ ag _ (nI 3) = _
    unfold Bl_misfits_L11
    rw [if_pos (by decide)]
def ntc (S : Nat → Nat) (n : Nat) (p : Nat → Nat) (k x b : Nat) : Nat := sm n (fun z => if z ≠ x ∧ p z = b ∧ ¬ 0 < sg S k x z then 1 else 0)
def ntl (S : Nat → Nat) (n : Nat) (p : Nat → Nat) (k a b : Nat) : Nat := sm n (fun x => if p x = a then ntc S n p k x b else 0)
theorem ntc_eq {S : Nat → Nat} {n : Nat} {p : Nat → Nat} {k x b : Nat} (h0 : sg S k x x = 0) : ct S n p k x b + ntc S n p k x b = slt n p x b := by
  unfold ct ntc slt
  rw [← sm_add]
  refine sm_cg fun z hz => ?_
  by_cases e : z = x
  · subst e
    rw [if_neg (fun w => by omega), if_neg (fun w => w.1 rfl), if_neg (fun w => w.1 rfl)]
  · by_cases c : p z = b
    · by_cases d : 0 < sg S k x z
      · rw [if_pos ⟨c, d⟩, if_neg (fun w => w.2.2 d), if_pos ⟨e, c⟩]
      · rw [if_neg (fun w => d w.2), if_pos ⟨e, c, d⟩, if_pos ⟨e, c⟩]
    · rw [if_neg (fun w => c w.1), if_neg (fun w => c w.2.1), if_neg (fun w => c w.2)]
theorem ntl_eq {S : Nat → Nat} {n : Nat} {p : Nat → Nat} {k a b : Nat} (hk : k < 3) (h0 : dg0 S n) : tl S n p k a b + ntl S n p k a b = slA n p a b := by
  unfold tl ntl slA
  rw [← sm_add]
  refine sm_cg fun x hx => ?_
  by_cases e : p x = a
  · rw [if_pos e, if_pos e, if_pos e, ntc_eq (h0 k x hk hx)]
  · rw [if_neg e, if_neg e, if_neg e]
set_option maxHeartbeats 1000000 in
theorem MD_wrongOf_eq {S : Nat → Nat} {n : Nat} {p : Nat → Nat} {M : Mem} (h : Tbl M 49 S) (hn : M 33 8 = nI n) (h7 : n ≤ 7) (hp : AR M 50 n p) (hp7 : ∀ z, z < n → p z < 100) (h0 : dg0 S n) : MD_wrongOf M = some (nI (wrg S n p)) := by
  unfold MD_wrongOf
  refine LOOP_fun (fun a => (nI (sm a (fun a => sm n (fun b => sm 3 (fun k => mf S n p k a b)))), nI a)) n (by omega) (fun _ => some (nI (wrg S n p))) ?_ ?_ 0 (Nat.zero_le _)
  · intro a ag ha ih
    show MD_wrongOf_L4 M _ ag _ (nI a) = _
    unfold MD_wrongOf_L4
    rw [hn, if_neg (by rw [nI_leI (by omega) (by omega)]; omega), ← ih]
    obtain ⟨B, hB⟩ : ∃ B, B = sm a (fun a => sm n (fun b => sm 3 (fun k => mf S n p k a b))) := ⟨_, rfl⟩
    rw [sm_s, ← hB]
    refine LOOP_fun (fun b => (nI (B + sm b (fun b => sm 3 (fun k => mf S n p k a b))), nI b)) n (by omega) (fun _ => _) ?_ ?_ 0 (Nat.zero_le _)
    · intro b ag' hb ih'
      show MD_wrongOf_L14 (nI a) M _ ag' _ (nI b) = _
      unfold MD_wrongOf_L14
      rw [hn, if_neg (by rw [nI_leI (by omega) (by omega)]; omega), ← ih']
      obtain ⟨C, hC⟩ : ∃ C, C = B + sm b (fun b => sm 3 (fun k => mf S n p k a b)) := ⟨_, rfl⟩
      rw [sm_s, ← Nat.add_assoc, ← hC]
      refine LOOP_fun (fun k => (nI (C + sm k (fun k => mf S n p k a b)), nI k)) 3 (by omega) (fun _ => _) ?_ ?_ 0 (Nat.zero_le _)
      · intro k ag'' hk ih''
        show MD_wrongOf_L25 (nI a) (nI b) M _ ag'' _ (nI k) = _
        unfold MD_wrongOf_L25
        rw [if_neg (by rw [show (3 : Int32) = nI 3 from rfl, nI_leI (by omega) (by omega)]; omega), ← ih'']
        obtain ⟨D, hD⟩ : ∃ D, D = C + sm k (fun k => mf S n p k a b) := ⟨_, rfl⟩
        rw [sm_s, ← Nat.add_assoc, ← hD]
        refine LOOP_fun (fun x => (nI (sm x (fun x => if p x = a then ct S n p k x b else 0)), nI (sm x (fun x => if p x = a then ntc S n p k x b else 0)), nI x)) n (by omega) (fun _ => _) ?_ ?_ 0 (Nat.zero_le _)
        · intro x ag3 hx ih3
          have hpx := hp7 x hx
          show MD_wrongOf_L40 (nI a) (nI b) (nI k) M _ ag3 _ _ (nI x) = _
          unfold MD_wrongOf_L40
          rw [hn, if_neg (by rw [nI_leI (by omega) (by omega)]; omega), ← ih3]
          obtain ⟨T, hT⟩ : ∃ T, T = sm x (fun x => if p x = a then ct S n p k x b else 0) := ⟨_, rfl⟩
          obtain ⟨U, hU⟩ : ∃ U, U = sm x (fun x => if p x = a then ntc S n p k x b else 0) := ⟨_, rfl⟩
          rw [sm_s, sm_s, ← hT, ← hU]
          by_cases ex : p x = a
          · rw [if_pos ex, if_pos ex]
            refine LOOP_fun (fun z => (nI (T + sm z (fun z => if p z = b ∧ 0 < sg S k x z then 1 else 0)), nI (U + sm z (fun z => if z ≠ x ∧ p z = b ∧ ¬ 0 < sg S k x z then 1 else 0)), nI z)) n (by omega) (fun _ => _) ?_ ?_ 0 (Nat.zero_le _)
            · intro z ag4 hz ih4
              have hpz := hp7 z hz
              show MD_wrongOf_L52 (nI a) (nI b) (nI k) (nI x) M _ ag4 _ _ (nI z) = _
              unfold MD_wrongOf_L52
              rw [hn, if_neg (by rw [nI_leI (by omega) (by omega)]; omega), if_pos ((inb_nI (by omega)).mpr (by omega)), rd_nI (by omega), hp x hx, if_pos ((inb_nI (by omega)).mpr (by omega)), rd_nI (by omega), hp z hz, MD_has_eq h hk (by omega) (by omega), bind_s, ← ih4]
              simp (disch := omega) only [nI_eq, i32lit, nI_add, cI_n0]
              rw [if_pos ex]
              by_cases c : z = x
              · rw [if_pos c, sm_s, sm_s, if_neg (fun w => by have := h0 k x hk hx; rw [c] at w; omega), if_neg (fun w => w.1 c)]
                rfl
              · rw [if_neg c]
                by_cases c4 : p z = b
                · rw [if_pos c4]
                  by_cases c5 : 0 < sg S k x z
                  · rw [if_neg (not_not_intro c5), sm_s, sm_s, if_pos ⟨c4, c5⟩, if_neg (fun w => w.2.2 c5)]
                    rfl
                  · rw [if_pos c5, sm_s, sm_s, if_neg (fun w => c5 w.2), if_pos ⟨c, c4, c5⟩]
                    rfl
                · rw [if_neg c4, sm_s, sm_s, if_neg (fun w => c4 w.1), if_neg (fun w => c4 w.2.1)]
                  rfl
            · intro ag4
              show MD_wrongOf_L52 (nI a) (nI b) (nI k) (nI x) M _ ag4 _ _ (nI n) = _
              unfold MD_wrongOf_L52
              rw [hn, if_pos (by rw [nI_leI (by omega) (by omega)]; omega), nI_1]
              rfl
          · rw [if_neg ex, if_neg ex]
            obtain ⟨f, hf⟩ : ∃ f, FU = f + 1 := ⟨FU - 1, by unfold FU; omega⟩
            rw [hf, LOOP_succ]
            show MD_wrongOf_L52 (nI a) (nI b) (nI k) (nI x) M _ _ _ _ (nI 0) = _
            unfold MD_wrongOf_L52
            rw [hn, if_neg (by rw [nI_leI (by omega) (by omega)]; omega), if_pos ((inb_nI (by omega)).mpr (by omega)), rd_nI (by omega), hp x hx, if_neg (by rw [nI_eq (by omega) (by omega)]; exact ex), nI_1]
            rfl
        · intro ag3
          show MD_wrongOf_L40 (nI a) (nI b) (nI k) M _ ag3 _ _ (nI n) = _
          unfold MD_wrongOf_L40
          have e1 := ntl_eq (p := p) (a := a) (b := b) hk h0
          have e2 := sl49 (n := n) (p := p) (a := a) (b := b) h7
          have e3 : sm n (fun x => if p x = a then ct S n p k x b else 0) = tl S n p k a b := rfl
          have e4 : sm n (fun x => if p x = a then ntc S n p k x b else 0) = ntl S n p k a b := rfl
          rw [hn, if_pos (by rw [nI_leI (by omega) (by omega)]; omega), e3, e4, nI_1]
          simp (disch := omega) only [nI_leI, nm_e', nI_add]
          have e5 : mf S n p k a b = min (tl S n p k a b) (ntl S n p k a b) := by unfold mf; omega
          rw [e5]
          by_cases c : ntl S n p k a b ≤ tl S n p k a b
          · rw [if_pos c, Nat.min_eq_right c]
          · rw [if_neg c, Nat.min_eq_left (by omega)]
      · intro ag''
        show MD_wrongOf_L25 (nI a) (nI b) M _ ag'' _ (nI 3) = _
        unfold MD_wrongOf_L25
        rw [if_pos (by decide), nI_1]
    · intro ag'
      show MD_wrongOf_L14 (nI a) M _ ag' _ (nI n) = _
      unfold MD_wrongOf_L14
      rw [hn, if_pos (by rw [nI_leI (by omega) (by omega)]; omega), nI_1]
  · intro ag
    show MD_wrongOf_L4 M _ ag _ (nI n) = _
    unfold MD_wrongOf_L4
    rw [hn, if_pos (by rw [nI_leI (by omega) (by omega)]; omega)]
    rfl
