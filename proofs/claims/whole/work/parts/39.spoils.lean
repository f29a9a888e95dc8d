/-! by hand: spoils: a tie turned over -/
def flp (S : Nat → Nat) (k x y : Nat) : Nat → Nat := fun c => if c = 49 * k + 7 * x + y then (if 0 < S c then 0 else 1) else S c
theorem flp_sg {S : Nat → Nat} {k x y k' u z : Nat} (hx : x < 7) (hy : y < 7) (hu : u < 7) (hz : z < 7) : sg (flp S k x y) k' u z = if k' = k ∧ u = x ∧ z = y then (if 0 < sg S k x y then 0 else 1) else sg S k' u z := by
  unfold sg flp
  by_cases e : 49 * k' + 7 * u + z = 49 * k + 7 * x + y
  · obtain ⟨rfl, rfl, rfl⟩ := ix_inj hx hy hu hz e
    rw [if_pos rfl, if_pos (show k' = k' ∧ u = u ∧ z = z from ⟨rfl, rfl, rfl⟩)]
  · rw [if_neg e, if_neg (fun w => e (by rw [w.1, w.2.1, w.2.2]))]
theorem sm_diff {n i : Nat} {f g : Nat → Nat} (hi : i < n) (h : ∀ x, x < n → x ≠ i → f x = g x) : sm n f + g i = sm n g + f i := by
  induction n with
  | zero => omega
  | succ n ih =>
    rw [sm_s, sm_s]
    by_cases e : i = n
    · subst e
      rw [sm_cg (g := g) (fun x hx => h x (by omega) (by omega))]
      omega
    · have h1 := ih (by omega) (fun x hx hne => h x (by omega) hne)
      have h2 := h n (by omega) (fun w => e w.symm)
      omega
/-- the turned table: ties between parts -/
theorem flp_ct {S : Nat → Nat} {n k x y k' u b : Nat} {p : Nat → Nat} (h7 : n ≤ 7) (hx : x < n) (hy : y < n) (hu : u < n) : ct (flp S k x y) n p k' u b + (if k' = k ∧ u = x ∧ p y = b ∧ 0 < sg S k x y then 1 else 0) = ct S n p k' u b + (if k' = k ∧ u = x ∧ p y = b ∧ ¬ 0 < sg S k x y then 1 else 0) := by
  have hsg := fun z (hz : z < n) => flp_sg (S := S) (k := k) (x := x) (y := y) (k' := k') (u := u) (z := z) (by omega) (by omega) (by omega) (by omega)
  have hd := sm_diff (n := n) (i := y) (f := fun z => if p z = b ∧ 0 < sg (flp S k x y) k' u z then 1 else 0) (g := fun z => if p z = b ∧ 0 < sg S k' u z then 1 else 0) hy (fun z hz hne => by
    rw [hsg z hz, if_neg (show ¬ (k' = k ∧ u = x ∧ z = y) from fun w => hne w.2.2)])
  unfold ct
  rw [hsg y hy] at hd
  by_cases c : k' = k ∧ u = x
  · obtain ⟨rfl, rfl⟩ := c
    rw [if_pos (show k' = k' ∧ u = u ∧ y = y from ⟨rfl, rfl, rfl⟩)] at hd
    by_cases c2 : p y = b
    · by_cases c3 : 0 < sg S k' u y
      · rw [if_pos c3, if_pos ⟨c2, c3⟩, if_neg (fun w => by omega)] at hd
        rw [if_pos ⟨rfl, rfl, c2, c3⟩, if_neg (fun w => w.2.2.2 c3)]
        exact hd
      · rw [if_neg c3, if_neg (fun w => c3 w.2), if_pos ⟨c2, by omega⟩] at hd
        rw [if_neg (fun w => c3 w.2.2.2), if_pos ⟨rfl, rfl, c2, c3⟩]
        exact hd
    · rw [if_neg (fun w => c2 w.1), if_neg (fun w => c2 w.1)] at hd
      rw [if_neg (fun w => c2 w.2.2.1), if_neg (fun w => c2 w.2.2.1)]
      exact hd
  · rw [if_neg (show ¬ (k' = k ∧ u = x ∧ y = y) from fun w => c ⟨w.1, w.2.1⟩)] at hd
    rw [if_neg (fun w => c ⟨w.1, w.2.1⟩), if_neg (fun w => c ⟨w.1, w.2.1⟩)]
    omega
theorem flp_tl {S : Nat → Nat} {n k x y k' a b : Nat} {p : Nat → Nat} (h7 : n ≤ 7) (hx : x < n) (hy : y < n) : tl (flp S k x y) n p k' a b + (if k' = k ∧ p x = a ∧ p y = b ∧ 0 < sg S k x y then 1 else 0) = tl S n p k' a b + (if k' = k ∧ p x = a ∧ p y = b ∧ ¬ 0 < sg S k x y then 1 else 0) := by
  have hd := sm_diff (n := n) (i := x) (f := fun u => if p u = a then ct (flp S k x y) n p k' u b else 0) (g := fun u => if p u = a then ct S n p k' u b else 0) hx (fun u hu hne => by
    have := flp_ct (S := S) (k := k) (k' := k') (b := b) (p := p) h7 hx hy hu
    rw [if_neg (fun w => hne w.2.1), if_neg (fun w => hne w.2.1)] at this
    rw [show ct (flp S k x y) n p k' u b = ct S n p k' u b by omega])
  have hc := flp_ct (S := S) (k := k) (k' := k') (b := b) (p := p) h7 hx hy hx
  unfold tl
  by_cases c : p x = a
  · rw [if_pos c, if_pos c] at hd
    have e1 : (if k' = k ∧ x = x ∧ p y = b ∧ 0 < sg S k x y then 1 else 0) = if k' = k ∧ p x = a ∧ p y = b ∧ 0 < sg S k x y then 1 else 0 := ite_congr (propext ⟨fun w => ⟨w.1, c, w.2.2⟩, fun w => ⟨w.1, rfl, w.2.2⟩⟩) (fun _ => rfl) (fun _ => rfl)
    have e2 : (if k' = k ∧ x = x ∧ p y = b ∧ ¬ 0 < sg S k x y then 1 else 0) = if k' = k ∧ p x = a ∧ p y = b ∧ ¬ 0 < sg S k x y then 1 else 0 := ite_congr (propext ⟨fun w => ⟨w.1, c, w.2.2⟩, fun w => ⟨w.1, rfl, w.2.2⟩⟩) (fun _ => rfl) (fun _ => rfl)
    rw [e1, e2] at hc
    omega
  · rw [if_neg c, if_neg c] at hd
    rw [if_neg (fun w => c w.2.1), if_neg (fun w => c w.2.1)]
    omega
theorem flp_d {S : Nat → Nat} {n k x y : Nat} (h7 : n ≤ 7) (hx : x < n) (hy : y < n) (hne : x ≠ y) (h0 : dg0 S n) : dg0 (flp S k x y) n := fun k' u hk hu => by
  rw [flp_sg (by omega) (by omega) (by omega) (by omega), if_neg (fun w => hne (w.2.1.symm.trans w.2.2))]
  exact h0 k' u hk hu
theorem flp_wrg {S : Nat → Nat} {n k x y : Nat} {p : Nat → Nat} (h7 : n ≤ 7) (hk : k < 3) (hx : x < n) (hy : y < n) (hp : ∀ z, z < n → p z < n) : wrg (flp S k x y) n p + mf S n p k (p x) (p y) = wrg S n p + mf (flp S k x y) n p k (p x) (p y) := by
  have hm : ∀ k' a b, ¬ (k' = k ∧ p x = a ∧ p y = b) → mf (flp S k x y) n p k' a b = mf S n p k' a b := fun k' a b hc => by
    have h1 := flp_tl (S := S) (k := k) (k' := k') (a := a) (b := b) (p := p) h7 hx hy
    rw [if_neg (fun w => hc ⟨w.1, w.2.1, w.2.2.1⟩), if_neg (fun w => hc ⟨w.1, w.2.1, w.2.2.1⟩)] at h1
    unfold mf
    rw [show tl (flp S k x y) n p k' a b = tl S n p k' a b by omega]
  have d1 := sm_diff (n := n) (i := p x) (f := fun a => sm n (fun b => sm 3 (fun k' => mf (flp S k x y) n p k' a b))) (g := fun a => sm n (fun b => sm 3 (fun k' => mf S n p k' a b))) (hp x hx) (fun a ha hne => sm_cg fun b hb => sm_cg fun k' hk' => hm k' a b (fun w => hne w.2.1.symm))
  have d2 := sm_diff (n := n) (i := p y) (f := fun b => sm 3 (fun k' => mf (flp S k x y) n p k' (p x) b)) (g := fun b => sm 3 (fun k' => mf S n p k' (p x) b)) (hp y hy) (fun b hb hne => sm_cg fun k' hk' => hm k' (p x) b (fun w => hne w.2.2.symm))
  have d3 := sm_diff (n := 3) (i := k) (f := fun k' => mf (flp S k x y) n p k' (p x) (p y)) (g := fun k' => mf S n p k' (p x) (p y)) hk (fun k' hk' hne => hm k' (p x) (p y) (fun w => hne w.1))
  unfold wrg
  omega
theorem sub_toInt {a b : Nat} (ha : a < 100000) (hb : b < 100000) : (nI a - nI b).toInt = (a : Int) - b := by
  rw [Int32.toInt_sub, nI_toInt (by omega), nI_toInt (by omega)]
  unfold Int.bmod
  dsimp only
  split <;> omega
theorem gain_eq {a b c d : Nat} (ha : a < 100000) (hb : b < 100000) (hc : c < 100000) (hd : d < 100000) (h : d + a = c + b) : nI a - nI b = nI c - nI d := by
  rw [i_eq, sub_toInt ha hb, sub_toInt hc hd]
  omega
abbrev Spo := Option (Nat × Nat)
def spS (st : Spo) (c w : Nat) : Spo := match st with
  | none => some (c, w)
  | some (c0, w0) => if w < w0 then some (c, w) else some (c0, w0)
def spK (F : Nat → Nat → Nat → Nat) (st : Spo) (x y : Nat) : Nat → Spo
  | 0 => st
  | k + 1 => spS (spK F st x y k) (100 * x + 10 * y + k) (F k x y)
def spY (F : Nat → Nat → Nat → Nat) (st : Spo) (x : Nat) : Nat → Spo
  | 0 => st
  | y + 1 => if x = y then spY F st x y else spK F (spY F st x y) x y 3
def spX (F : Nat → Nat → Nat → Nat) (n : Nat) : Nat → Spo
  | 0 => none
  | x + 1 => spY F (spX F n x) x n
theorem spS_ne (st : Spo) (c w : Nat) : spS st c w ≠ none := by
  unfold spS
  split
  · exact Option.some_ne_none _
  · split <;> exact Option.some_ne_none _
theorem spY_ne {F : Nat → Nat → Nat → Nat} {st : Spo} {x : Nat} : ∀ {m : Nat}, (st ≠ none ∨ ∃ y, y < m ∧ x ≠ y) → spY F st x m ≠ none
  | 0, h => by
    rcases h with z | ⟨y, hy, -⟩
    · exact z
    · omega
  | m + 1, h => by
    show (if x = m then spY F st x m else spK F (spY F st x m) x m 3) ≠ none
    by_cases e : x = m
    · rw [if_pos e]
      refine spY_ne ?_
      rcases h with z | ⟨y, hy, hne⟩
      · exact Or.inl z
      · exact Or.inr ⟨y, by omega, hne⟩
    · rw [if_neg e]
      exact spS_ne _ _ _
theorem spX_ne {F : Nat → Nat → Nat → Nat} {n : Nat} (h2 : 2 ≤ n) : ∀ {m : Nat}, 1 ≤ m → spX F n m ≠ none
  | 0, h => by omega
  | m + 1, _ => spY_ne (Or.inr (by
    by_cases e : m = 0
    · exact ⟨1, by omega, by omega⟩
    · exact ⟨0, by omega, by omega⟩))
def spE (u : Int32) (W : Nat) : Spo → Int32
  | none => 0
  | some (c, w) => if u = 0 then nI c else nI W - nI w
def noL (σ : Sg) (w : Nat) : Ans := (rfs σ w, 1000000000 - -(nI w))
def spG (S : Nat → Nat) (n : Nat) (p : Nat → Nat) : Nat → Nat → Nat → Nat := fun k x y => wrg (flp S k x y) n p
def R_spoils (σ : Sg) (v u : Int32) : Ans := match opn σ.1 v with
  | some p => if inrB u 2 = true then if σ.1 < 2 then (if u = 0 then (σ, -9) else noL σ 3) else (σ, spE u (wrg (sS σ) σ.1 p) (spX (spG (sS σ) σ.1 p) σ.1 σ.1)) else noL σ 2
  | none => noL σ 1
theorem SP_noL {M M0 : Mem} {σ : Sg} (w : Nat) (v : Int32) (hv : v = -(nI w)) (hw : w < 7) (hm : -(-(nI w)) = nI w) (h : RC M σ) (hf : ∀ k, 33 ≤ k → M k = M0 k) : wp (bnd2 (SP_refuse v M) fun r M' => some (1000000000 - r, M')) (EC (noL σ w) M0) := by
  subst hv
  have ha : aln 32 = 7 := rfl
  unfold SP_refuse
  rw [hm, SP_at_nI (by omega) (by omega), bind_s, SP_put_nI (by omega) (by omega), bind_s, bnd2_s]
  refine wp_some ⟨rfl, h.rfs hw, fun k hk => ?_⟩
  show st2 M 32 w (M 32 w + 1) k = _
  rw [st2_n (by omega)]
  exact hf k hk
theorem MD_noL {M M0 : Mem} {σ : Sg} (w : Nat) (v : Int32) (hv : v = -(nI w)) (hw : w < 7) (hm : -(-(nI w)) = nI w) (h : RM M σ) (hf : ∀ k, k < 33 → M k = M0 k) : wp (bnd2 (MD_less v M) fun r M' => some (r, M')) (EM (noL σ w) M0) := by
  subst hv
  rw [MD_less_eq _ w hm hw, bnd2_s]
  refine wp_some ⟨rfl, h.rfs hw, fun k hk => ?_⟩
  show st2 M 34 w (M 34 w + 1) k = _
  rw [st2_n (by omega)]
  exact hf k hk
theorem Bl_gainOf_eq {S : Nat → Nat} {n k x y : Nat} {p : Nat → Nat} {M : Mem} (h : Tbl M 3 S) (h7 : n ≤ 7) (hp : AR M 27 n p) (hpn : ∀ z, z < n → p z < n) (hT : TLY M n p S) (h0 : dg0 S n) (hk : k < 3) (hx : x < n) (hy : y < n) (hne : x ≠ y) : Bl_gainOf (nI x) (nI y) (nI k) M = some (nI (wrg S n p) - nI (wrg (flp S k x y) n p)) := by
  have hpx := hpn x hx
  have hpy := hpn y hy
  have e1 := flp_tl (S := S) (k := k) (k' := k) (a := p x) (b := p y) (p := p) h7 hx hy
  have e2 := tl_le (p := p) (k := k) (a := p x) (b := p y) hk (flp_d (k := k) h7 hx hy hne h0)
  have e3 := flp_wrg (S := S) (k := k) (p := p) h7 hk hx hy hpn
  have hfin : nI (mf S n p k (p x) (p y)) - nI (mf (flp S k x y) n p k (p x) (p y)) = nI (wrg S n p) - nI (wrg (flp S k x y) n p) := by
    have b1 := mf_le (S := S) (p := p) (k := k) (a := p x) (b := p y) h7
    have b2 := mf_le (S := flp S k x y) (p := p) (k := k) (a := p x) (b := p y) h7
    have b3 := wrg_le (S := S) (p := p) h7
    have b4 := wrg_le (S := flp S k x y) (p := p) h7
    exact gain_eq (by omega) (by omega) (by omega) (by omega) (by omega)
  unfold Bl_gainOf
  rw [Pa_of_nI isP_26 (by omega), bind_s, Pa_of_nI isP_26 (by omega), bind_s, hp x hx, hp y hy, Bl_misfit_eq (e := 0) hT h7 hk (by omega) (by omega) (add0 _) (tl_le hk h0), bind_s, To_tied_eq h hk (by omega) (by omega), bind_s, jp_e]
  simp only [cI_0]
  by_cases c : 0 < sg S k x y
  · rw [if_pos ⟨rfl, rfl, rfl, c⟩, if_neg (fun w => w.2.2.2 c)] at e1
    rw [if_neg (not_not_intro c), Bl_misfit_eq (t := tl (flp S k x y) n p k (p x) (p y)) hT h7 hk (by omega) (by omega) (by rw [show tl S n p k (p x) (p y) = tl (flp S k x y) n p k (p x) (p y) + 1 by omega, pk_m1]) e2, bind_s, ← hfin]
    rfl
  · rw [if_neg (fun w => c w.2.2.2), if_pos ⟨rfl, rfl, rfl, c⟩] at e1
    rw [if_pos c, Bl_misfit_eq (t := tl (flp S k x y) n p k (p x) (p y)) hT h7 hk (by omega) (by omega) (by rw [nI_1]; congr 1; omega) e2, bind_s, ← hfin]
    rfl
/-- what the class holds of it, the reference -/
def SC (W : Nat) (st : Spo) (a b : Int32) : Prop := match st with
  | none => a = -9 ∧ b = 0
  | some (c, w) => a = nI c ∧ c < 10000 ∧ w < 10000 ∧ b = nI W - nI w
def SM (st : Spo) (a b : Int32) : Prop := match st with
  | none => a = -9 ∧ b = 0
  | some (c, w) => a = nI c ∧ c < 10000 ∧ w < 10000 ∧ b = nI w
theorem gain_le {W w w0 : Nat} (hW : W < 10000) (hw : w < 10000) (h0 : w0 < 10000) : (nI W - nI w ≤ nI W - nI w0) ↔ w0 ≤ w := by
  rw [i_le, sub_toInt (by omega) (by omega), sub_toInt (by omega) (by omega)]
  omega
set_option maxHeartbeats 1000000 in
theorem Bl_worstTie_wp {S : Nat → Nat} {n : Nat} {p : Nat → Nat} {M : Mem} (s : Int32) (h : Tbl M 3 S) (hn : M 1 2 = nI n) (h7 : n ≤ 7) (hp : AR M 27 n p) (hpn : ∀ z, z < n → p z < n) (h0 : dg0 S n) : wp (Bl_worstTie s M) (fun r => Fr [21, 22] M r.2 ∧ ∃ a b, SC (wrg S n p) (spX (spG S n p) n n) a b ∧ r.1 = if s = 0 then b else a) := by
  have hW := wrg_le (S := S) (p := p) h7
  unfold Bl_worstTie
  refine wp_bind (Bl_tallyTies_wp h hn h7 hp (fun z hz => by have := hpn z hz; omega)) (fun M1 hM1 => ?_)
  obtain ⟨f1, hT⟩ := hM1
  have hn1 : M1 1 2 = nI n := by rw [f1 1 (by decide)]; exact hn
  have h1 : Tbl M1 3 S := h.fr (f1 3 (by decide))
  have hp1 : AR M1 27 n p := hp.fr (f1 27 (by decide))
  refine LOOP_up2 (fun x (a b : Int32) => (a, b, nI x)) n (by omega) (fun x a b => SC (wrg S n p) (spX (spG S n p) n x) a b) (fun o => wp o _) ?_ ?_ 0 (-9) 0 (by omega) ⟨rfl, rfl⟩
  · intro x a b ag hx hJ ih
    show wp (Bl_worstTie_L16 M1 _ ag a b (nI x)) _
    unfold Bl_worstTie_L16
    rw [hn1, if_neg (by rw [nI_leI (by omega) (by omega)]; omega)]
    refine LOOP_up2 (fun y (a b : Int32) => (a, b, nI y)) n (by omega) (fun y a b => SC (wrg S n p) (spY (spG S n p) (spX (spG S n p) n x) x y) a b) (fun o => wp o _) ?_ ?_ 0 a b (by omega) hJ
    · intro y a b ag' hy hJ ih'
      show wp (Bl_worstTie_L28 (nI x) M1 _ ag' a b (nI y)) _
      unfold Bl_worstTie_L28
      rw [hn1, if_neg (by rw [nI_leI (by omega) (by omega)]; omega)]
      obtain ⟨st, hst⟩ : ∃ st, st = spY (spG S n p) (spX (spG S n p) n x) x y := ⟨_, rfl⟩
      rw [← hst] at hJ
      have hgo : ∀ a b, SC (wrg S n p) (spY (spG S n p) (spX (spG S n p) n x) x (y + 1)) a b → wp (ag' (a, b, nI y + 1)) (fun r => Fr [21, 22] M r.2 ∧ ∃ a b, SC (wrg S n p) (spX (spG S n p) n n) a b ∧ r.1 = if s = 0 then b else a) := fun a b hc => by
        rw [nI_1]; exact ih' a b hc
      have hsY : spY (spG S n p) (spX (spG S n p) n x) x (y + 1) = if x = y then st else spK (spG S n p) st x y 3 := by rw [hst]; rfl
      rw [hsY] at hgo
      by_cases exy : x = y
      · rw [if_pos exy] at hgo
        obtain ⟨f, hf⟩ : ∃ f, FU = f + 1 := ⟨FU - 1, by unfold FU; omega⟩
        rw [hf, LOOP_succ]
        show wp (Bl_worstTie_L40 (nI x) (nI y) M1 _ _ a b 0) _
        unfold Bl_worstTie_L40
        rw [if_pos (by rw [exy])]
        exact hgo a b hJ
      · rw [if_neg exy] at hgo
        refine LOOP_up2 (fun k (a b : Int32) => (a, b, nI k)) 3 (by omega) (fun k a b => SC (wrg S n p) (spK (spG S n p) st x y k) a b) (fun o => wp o _) ?_ ?_ 0 a b (by omega) hJ
        · intro k a b ag'' hk hJ ih''
          show wp (Bl_worstTie_L40 (nI x) (nI y) M1 _ ag'' a b (nI k)) _
          unfold Bl_worstTie_L40
          have hw' := wrg_le (S := flp S k x y) (p := p) h7
          rw [if_neg (by rw [nI_eq (by omega) (by omega)]; exact exy), if_neg (by rw [show (3 : Int32) = nI 3 from rfl, nI_leI (by omega) (by omega)]; omega), Bl_gainOf_eq h1 h7 hp1 hpn hT h0 hk hx hy exy, bind_s, jp_e, nm_e', show (100 : Int32) = nI 100 from rfl, show (10 : Int32) = nI 10 from rfl, pk_mul, pk_mul, nI_add, nI_add, nI_1]
          have hsK : spK (spG S n p) st x y (k + 1) = spS (spK (spG S n p) st x y k) (100 * x + 10 * y + k) (wrg (flp S k x y) n p) := rfl
          rw [hsK] at ih''
          rcases hq : spK (spG S n p) st x y k with _ | ⟨c, w⟩
          · rw [hq] at hJ ih''
            obtain ⟨rfl, rfl⟩ := hJ
            rw [if_pos (by decide)]
            exact ih'' _ _ ⟨rfl, by omega, hw', rfl⟩
          · rw [hq] at hJ ih''
            obtain ⟨rfl, hc, hw, rfl⟩ := hJ
            have hspS : spS (some (c, w)) (100 * x + 10 * y + k) (wrg (flp S k x y) n p) = if wrg (flp S k x y) n p < w then some (100 * x + 10 * y + k, wrg (flp S k x y) n p) else some (c, w) := rfl
            rw [hspS] at ih''
            rw [if_neg (nI_pos (by omega))]
            by_cases hle : w ≤ wrg (flp S k x y) n p
            · rw [if_pos ((gain_le hW hw' hw).mpr hle)]
              rw [if_neg (by omega)] at ih''
              exact ih'' _ _ ⟨rfl, hc, hw, rfl⟩
            · rw [if_neg (fun z => hle ((gain_le hW hw' hw).mp z))]
              rw [if_pos (by omega)] at ih''
              exact ih'' _ _ ⟨rfl, by omega, hw', rfl⟩
        · intro a b ag'' hJ
          show wp (Bl_worstTie_L40 (nI x) (nI y) M1 _ ag'' a b (nI 3)) _
          unfold Bl_worstTie_L40
          rw [if_neg (by rw [nI_eq (by omega) (by omega)]; exact exy), if_pos (by decide)]
          exact hgo a b hJ
    · intro a b ag' hJ
      show wp (Bl_worstTie_L28 (nI x) M1 _ ag' a b (nI n)) _
      unfold Bl_worstTie_L28
      rw [hn1, if_pos (by rw [nI_leI (by omega) (by omega)]; omega), nI_1]
      exact ih a b hJ
  · intro a b ag hJ
    show wp (Bl_worstTie_L16 M1 _ ag a b (nI n)) _
    unfold Bl_worstTie_L16
    rw [hn1, if_pos (by rw [nI_leI (by omega) (by omega)]; omega)]
    dsimp only
    by_cases hs : s = 0
    · rw [if_pos hs]
      exact wp_some ⟨f1, a, b, hJ, by rw [if_pos hs]⟩
    · rw [if_neg hs]
      exact wp_some ⟨f1, a, b, hJ, by rw [if_neg hs]⟩
theorem rng2' {β : Type} {v : Int32} {c : Nat} (hc : c < 2 ^ 30) {a b : Option β} : (if v < 0 then a else if v ≤ nI c then b else a) = if inrB v (c + 1) = true then b else a := rng2 hc
theorem SP_spoils_wp {σ : Sg} {M : Mem} (v u : Int32) (hw : WF σ) (h : RC M σ) : wp (SP_spoils v u M) (EC (R_spoils σ v u) M) := by
  have hn : M 1 2 = nI σ.1 := h.1
  have h7 : σ.1 ≤ 7 := hw.2.1
  unfold SP_spoils R_spoils
  rw [hn]
  refine wp_bnd2 (Pa_readNumber_wp isP_26 hw.1 hw.2.1) (fun r M1 hr => ?_)
  obtain ⟨f1, hr⟩ := hr
  have g1 : Fr SCR M M1 := f1.mo SCR26
  have h1 := h.fr g1
  have hn1 : M1 1 2 = nI σ.1 := h1.1
  rcases hr with ⟨p, e, rfl, hp⟩ | ⟨e, rfl⟩
  · have hR := (opn_some e).1
    rw [e, if_neg one_ne0, jp_e, show (1 : Int32) = nI 1 from rfl, rng2 (by omega)]
    dsimp only
    by_cases hu : inrB u 2 = true
    · rw [if_pos hu, if_pos hu, hn1, show (2 : Int32) = nI 2 from rfl]
      by_cases h2 : σ.1 < 2
      · rw [if_neg (by rw [nI_leI (by omega) (by omega)]; omega), if_pos h2]
        by_cases hu0 : u = 0
        · rw [if_pos hu0, if_pos hu0]
          exact wp_some (ec_ok h1 g1.hi)
        · rw [if_neg hu0, if_neg hu0]
          exact SP_noL 3 _ rfl (by omega) rfl h1 g1.hi
      · rw [if_pos (by rw [nI_leI (by omega) (by omega)]; omega), if_neg h2, h1.2.1]
        refine wp_bind (SP_look hw.2.2.1 hw h1) (fun M2 hM2 => ?_)
        obtain ⟨f2, t2⟩ := hM2
        have g2 := f2.mo SCR3
        have h2' := h1.fr g2
        have hne := spX_ne (F := spG (sS σ) σ.1 p) (n := σ.1) (by omega) (m := σ.1) hw.1
        rw [jp_e]
        have key : ∀ s : Int32, ((s = 0) ↔ ¬ u = 0) → wp (bnd2 (Bl_worstTie s M2) fun r_4 M5 => some (r_4, M5)) (EC (σ, spE u (wrg (sS σ) σ.1 p) (spX (spG (sS σ) σ.1 p) σ.1 σ.1)) M) := fun s hs => by
          refine wp_bnd2 (Bl_worstTie_wp s t2 h2'.1 h7 (hp.2.2.fr (f2 27 (by decide))) hR.ltn (dg0.of hw)) (fun r4 M4 hM4 => ?_)
          obtain ⟨f4, a, b, hS, e4⟩ := hM4
          have g4 := f4.mo SCRw
          have : r4 = spE u (wrg (sS σ) σ.1 p) (spX (spG (sS σ) σ.1 p) σ.1 σ.1) := by
            rcases hq : spX (spG (sS σ) σ.1 p) σ.1 σ.1 with _ | ⟨c, w⟩
            · exact absurd hq hne
            · rw [hq] at hS
              obtain ⟨rfl, -, -, rfl⟩ := hS
              rw [show r4 = _ from e4]
              unfold spE
              by_cases hu0 : u = 0
              · rw [if_neg (fun z => hs.mp z hu0)]; exact (if_pos hu0).symm
              · rw [if_pos (hs.mpr hu0)]; exact (if_neg hu0).symm
          rw [this]
          exact wp_some (ec_ok (h2'.fr g4) ((g1.tr g2).tr g4).hi)
        by_cases hu0 : u = 0
        · rw [if_pos hu0]
          exact key _ ⟨fun z => absurd z one_ne0, fun z => absurd hu0 z⟩
        · rw [if_neg hu0]
          exact key _ ⟨fun _ => hu0, fun _ => rfl⟩
    · rw [if_neg hu, if_neg hu]
      exact SP_noL 2 _ rfl (by omega) rfl h1 g1.hi
  · rw [e, if_pos rfl]
    exact SP_noL 1 _ rfl (by omega) rfl h1 g1.hi
theorem flp_Tbl {S : Nat → Nat} {k x y q : Nat} {M : Mem} (h : Tbl M 49 S) (hc : 49 * k + 7 * x + y < 147) (hq : q = if 0 < S (49 * k + 7 * x + y) then 0 else 1) : Tbl (st2 M 49 (49 * k + 7 * x + y) (nI q)) 49 (flp S k x y) := fun c hc' => by
  rw [st2_s]
  unfold flp
  by_cases e : c = 49 * k + 7 * x + y
  · subst e
    rw [upd_s, if_pos rfl, ← hq]
    refine ⟨rfl, ?_⟩
    rw [hq]; split <;> omega
  · rw [upd_n e, if_neg e]; exact h c hc'
set_option maxHeartbeats 1000000 in
theorem MD_spoils_wp {σ : Sg} {M : Mem} (v u : Int32) (hw : WF σ) (h : RM M σ) : wp (MD_spoils v u M) (EM (R_spoils σ v u) M) := by
  have hn : M 33 8 = nI σ.1 := h.1
  have h7 : σ.1 ≤ 7 := hw.2.1
  unfold MD_spoils R_spoils
  refine wp_bnd2 (MD_opens_wp (Or.inl rfl) hw.1 hw.2.1 hn) (fun r M1 hr => ?_)
  obtain ⟨f1, hr⟩ := hr
  have g1 : Fr SMR M M1 := f1.mo SMR50
  have h1 := h.fr g1
  have hn1 : M1 33 8 = nI σ.1 := h1.1
  rcases hr with ⟨p, e, e2, hp⟩ | ⟨e, e2⟩
  · have hR := (opn_some e).1
    have ht := hR.top7
    simp only at e2
    have eI : MD_isIn u.toInt64 0 1 = some (cI (inrB u 2 = true)) := by
      rw [MD_isIn_eq]
      congr 1
      refine cI_iff ?_
      rw [inrB_iff, Int32.toInt_toInt64, l0, show (1 : Int64).toInt = 1 from rfl]
      unfold inr
      omega
    rw [e, e2, if_pos (nI_nn (by omega)), eI, bind_s]
    simp only [cI_0]
    by_cases hu : inrB u 2 = true
    · rw [if_neg (not_not_intro hu), if_pos hu, hn1]
      by_cases h2 : σ.1 < 2
      · rw [if_pos (by rw [show σ.1 = 1 by have := hw.1; omega]; rfl), if_pos h2]
        by_cases hu0 : u = 0
        · rw [if_pos hu0, if_pos hu0]
          exact wp_some (em_ok h1 g1.lo)
        · rw [if_neg hu0, if_neg hu0]
          exact MD_noL 3 _ rfl (by omega) rfl h1 g1.lo
      · rw [if_neg (by rw [show (1 : Int32) = nI 1 from rfl, nI_eq (by omega) (by omega)]; omega), if_neg h2, h1.2.1]
        refine wp_bind (MD_look hw.2.2.1 hw h1) (fun M2 hM2 => ?_)
        obtain ⟨f2, t2⟩ := hM2
        have g2 := f2.mo SMR49
        have h2' := h1.fr g2
        have hne := spX_ne (F := spG (sS σ) σ.1 p) (n := σ.1) (by omega) (m := σ.1) hw.1
        have hp2 : AR M2 50 σ.1 p := hp.fr (f2 50 (by decide))
        have hp100 : ∀ z, z < σ.1 → p z < 100 := fun z hz => by have := hR.ltn z hz; omega
        have hd0 := dg0.of (σ := σ) hw (y := σ.2.1)
        obtain ⟨S, hS⟩ : ∃ S, S = sS σ := ⟨_, rfl⟩
        have hd : dg0 S σ.1 := by rw [hS]; exact hd0
        have t2' : Tbl M2 49 S := by rw [hS]; exact t2
        rw [← hS] at hne ⊢
        rw [MD_wrongOf_eq t2' h2'.1 h7 hp2 hp100 hd, bind_s]
        have hn2 : M2 33 8 = nI σ.1 := h2'.1
        obtain ⟨n, hnn⟩ : ∃ n, n = σ.1 := ⟨_, rfl⟩
        rw [← hnn] at hne hd h7 hp2 hp100 hn2 ⊢
        have hpn : ∀ z, z < n → p z < n := fun z hz => by rw [hnn] at hz ⊢; exact hR.ltn z hz
        have hends : ∀ t, Fr [49] M2 t → ∀ a b, SM (spX (spG S n p) n n) a b → wp (if u = 0 then some (a, t) else some (nI (wrg S n p) - b, t)) (EM (σ, spE u (wrg S n p) (spX (spG S n p) n n)) M) := fun t hf a b hSM => by
          rcases hq : spX (spG S n p) n n with _ | ⟨c, w⟩
          · exact absurd hq hne
          · rw [hq] at hSM
            obtain ⟨rfl, -, -, rfl⟩ := hSM
            have g4 := hf.mo SMR49
            have hok := fun q : Int32 => em_ok (a := q) (h2'.fr g4) ((g1.tr g2).tr g4).lo
            by_cases hu0 : u = 0
            · rw [if_pos hu0, show spE u (wrg S n p) (some (c, w)) = nI c from if_pos hu0]
              exact wp_some (hok _)
            · rw [if_neg hu0, show spE u (wrg S n p) (some (c, w)) = nI (wrg S n p) - nI w from if_neg hu0]
              exact wp_some (hok _)
        refine LOOP_up3 (fun x (a b : Int32) (t : Mem) => (a, b, nI x, t)) n (by omega) (fun x a b t => Fr [49] M2 t ∧ Tbl t 49 S ∧ SM (spX (spG S n p) n x) a b) (fun o => wp o _) ?_ ?_ 0 (-9) 0 M2 (by omega) ⟨Fr.rf, t2', rfl, rfl⟩
        · intro x a b t ag hx ⟨hf, hT, hJ⟩ ih
          show wp (MD_spoils_L82 _ ag a b (nI x) t) _
          unfold MD_spoils_L82
          rw [hf 33 (by decide), hn2, if_neg (by rw [nI_leI (by omega) (by omega)]; omega)]
          refine LOOP_up3 (fun y (a b : Int32) (t : Mem) => (a, b, nI y, t)) n (by omega) (fun y a b t => Fr [49] M2 t ∧ Tbl t 49 S ∧ SM (spY (spG S n p) (spX (spG S n p) n x) x y) a b) (fun o => wp o _) ?_ ?_ 0 a b t (by omega) ⟨hf, hT, hJ⟩
          · intro y a b t ag' hy ⟨hf, hT, hJ⟩ ih'
            show wp (MD_spoils_L94 (nI x) _ ag' a b (nI y) t) _
            unfold MD_spoils_L94
            rw [hf 33 (by decide), hn2, if_neg (by rw [nI_leI (by omega) (by omega)]; omega)]
            obtain ⟨st, hst⟩ : ∃ st, st = spY (spG S n p) (spX (spG S n p) n x) x y := ⟨_, rfl⟩
            rw [← hst] at hJ
            have hgo : ∀ a b t, Fr [49] M2 t ∧ Tbl t 49 S ∧ SM (spY (spG S n p) (spX (spG S n p) n x) x (y + 1)) a b → wp (ag' (a, b, nI y + 1, t)) (EM (σ, spE u (wrg S n p) (spX (spG S n p) n n)) M) := fun a b t hc => by
              rw [nI_1]; exact ih' a b t hc
            have hsY : spY (spG S n p) (spX (spG S n p) n x) x (y + 1) = if x = y then st else spK (spG S n p) st x y 3 := by rw [hst]; rfl
            rw [hsY] at hgo
            by_cases exy : x = y
            · rw [if_pos exy] at hgo
              obtain ⟨f, hf'⟩ : ∃ f, FU = f + 1 := ⟨FU - 1, by unfold FU; omega⟩
              rw [hf', LOOP_succ]
              show wp (MD_spoils_L106 (nI x) (nI y) _ _ a b 0 t) _
              unfold MD_spoils_L106
              rw [if_neg (by decide), if_pos (by rw [exy])]
              exact hgo a b t ⟨hf, hT, hJ⟩
            · rw [if_neg exy] at hgo
              refine LOOP_up3 (fun k (a b : Int32) (t : Mem) => (a, b, nI k, t)) 3 (by omega) (fun k a b t => Fr [49] M2 t ∧ Tbl t 49 S ∧ SM (spK (spG S n p) st x y k) a b) (fun o => wp o _) ?_ ?_ 0 a b t (by omega) ⟨hf, hT, hJ⟩
              · intro k a b t ag'' hk ⟨hf, hT, hJ⟩ ih''
                show wp (MD_spoils_L106 (nI x) (nI y) _ ag'' a b (nI k) t) _
                unfold MD_spoils_L106
                have hw' := wrg_le (S := flp S k x y) (p := p) h7
                have hcc : 49 * k + 7 * x + y < 147 := by omega
                have ec : ((49 * nI k) + (7 * nI x)) + nI y = nI (49 * k + 7 * x + y) := by
                  rw [show (49 : Int32) = nI 49 from rfl, show (7 : Int32) = nI 7 from rfl]
                  simp only [pk_mul, nI_add]
                have i7 : inb (nI (49 * k + 7 * x + y)) 147 := (inb_nI (by omega)).mpr hcc
                rw [if_neg (by rw [show (3 : Int32) = nI 3 from rfl, nI_leI (by omega) (by omega)]; omega), if_neg (by rw [nI_eq (by omega) (by omega)]; exact fun z => exy z.symm), nm_e', ec, if_pos i7, nm_e', jp_e]
                simp only [if_pos i7, nm_e']
                rw [rd_nI (by omega), (hT _ hcc).1]
                have hS9 := (hT _ hcc).2
                obtain ⟨q, hq⟩ : ∃ q, q = if 0 < S (49 * k + 7 * x + y) then 0 else 1 := ⟨_, rfl⟩
                have hsK : spK (spG S n p) st x y (k + 1) = spS (spK (spG S n p) st x y k) (100 * x + 10 * y + k) (wrg (flp S k x y) n p) := rfl
                rw [hsK] at ih''
                have ht' : st2 (st2 t 49 (49 * k + 7 * x + y) (nI q)) 49 (49 * k + 7 * x + y) (nI (S (49 * k + 7 * x + y))) = t := by
                  funext o j
                  by_cases e1 : o = 49
                  · subst e1
                    rw [st2_s]
                    by_cases e2 : j = 49 * k + 7 * x + y
                    · subst e2; rw [upd_s]; exact (hT _ hcc).1.symm
                    · rw [upd_n e2, st2_s, upd_n e2]
                  · rw [st2_n e1, st2_n e1]
                have hstep : wp (Option.bind (MD_wrongOf (wr t 49 (nI (49 * k + 7 * x + y)) (nI q))) fun r_6 => jp (ag'' (100 * nI x + 10 * nI y + nI k, r_6, nI k + 1, wr (wr t 49 (nI (49 * k + 7 * x + y)) (nI q)) 49 (nI (49 * k + 7 * x + y)) (nI (S (49 * k + 7 * x + y))))) fun k_2 => if a = -9 then k_2 else if r_6 < b then k_2 else ag'' (a, b, nI k + 1, wr (wr t 49 (nI (49 * k + 7 * x + y)) (nI q)) 49 (nI (49 * k + 7 * x + y)) (nI (S (49 * k + 7 * x + y))))) (EM (σ, spE u (wrg S n p) (spX (spG S n p) n n)) M) := by
                  rw [wr_nI (by omega), wr_nI (by omega), ht', MD_wrongOf_eq (flp_Tbl hT hcc hq) (by rw [st2_n (by decide), hf 33 (by decide)]; exact hn2) h7 (fun j hj => by rw [st2_n (by decide), hf 50 (by decide)]; exact hp2 j hj) hp100 (flp_d h7 hx hy exy hd), bind_s, jp_e, show (100 : Int32) = nI 100 from rfl, show (10 : Int32) = nI 10 from rfl, pk_mul, pk_mul, nI_add, nI_add, nI_1]
                  rcases hq : spK (spG S n p) st x y k with _ | ⟨c, w⟩
                  · rw [hq] at hJ ih''
                    obtain ⟨rfl, rfl⟩ := hJ
                    rw [if_pos rfl]
                    exact ih'' _ _ _ ⟨hf, hT, rfl, by omega, hw', rfl⟩
                  · rw [hq] at hJ ih''
                    obtain ⟨rfl, hc, hw, rfl⟩ := hJ
                    have hspS : spS (some (c, w)) (100 * x + 10 * y + k) (wrg (flp S k x y) n p) = if wrg (flp S k x y) n p < w then some (100 * x + 10 * y + k, wrg (flp S k x y) n p) else some (c, w) := rfl
                    rw [hspS] at ih''
                    rw [if_neg (nI_ne9 (by omega))]
                    by_cases hle : wrg (flp S k x y) n p < w
                    · rw [if_pos ((nI_ltI (by omega) (by omega)).mpr hle)]
                      rw [if_pos hle] at ih''
                      exact ih'' _ _ _ ⟨hf, hT, rfl, by omega, hw', rfl⟩
                    · rw [if_neg (fun z => hle ((nI_ltI (by omega) (by omega)).mp z))]
                      rw [if_neg hle] at ih''
                      exact ih'' _ _ _ ⟨hf, hT, rfl, hc, hw, rfl⟩
                by_cases hpos : 0 < S (49 * k + 7 * x + y)
                · rw [if_neg (by rw [nI_pos_iff (by omega)]; omega)]
                  rw [if_pos hpos] at hq
                  rw [hq] at hstep
                  exact hstep
                · rw [if_pos (by rw [nI_pos_iff (by omega)]; omega)]
                  rw [if_neg hpos] at hq
                  rw [hq] at hstep
                  exact hstep
              · intro a b t ag'' ⟨hf, hT, hJ⟩
                show wp (MD_spoils_L106 (nI x) (nI y) _ ag'' a b (nI 3) t) _
                unfold MD_spoils_L106
                rw [if_pos (by decide)]
                exact hgo a b t ⟨hf, hT, hJ⟩
          · intro a b t ag' ⟨hf, hT, hJ⟩
            show wp (MD_spoils_L94 (nI x) _ ag' a b (nI n) t) _
            unfold MD_spoils_L94
            rw [hf 33 (by decide), hn2, if_pos (by rw [nI_leI (by omega) (by omega)]; omega), nI_1]
            exact ih a b t ⟨hf, hT, hJ⟩
        · intro a b t ag ⟨hf, hT, hJ⟩
          show wp (MD_spoils_L82 _ ag a b (nI n) t) _
          unfold MD_spoils_L82
          rw [hf 33 (by decide), hn2, if_pos (by rw [nI_leI (by omega) (by omega)]; omega)]
          exact hends t hf a b hJ
    · rw [if_pos hu, if_neg hu]
      exact MD_noL 2 _ rfl (by omega) rfl h1 g1.lo
  · simp only at e2
    rw [e, e2, if_neg m1_nn]
    exact MD_noL 1 _ rfl (by omega) rfl h1 g1.lo
