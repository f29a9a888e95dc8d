/-! THE CLAIM OUT OF ONE WALK OF THE LAW'S BODY. Your part is whole_start (and what it stands on); all else here is the same for every law, but numbers. -/
def R_law : String := "SamePartsLaw"
def lw_P (b : Addr) (xs : List Int32) (args : Array Value) (s : State) : Prop := args = #[.ref b] ∧ s.IntsAt b xs ∧ xs.length ≤ 2560 ∧ (Jvm.Cond.and given_1 narrow_1).before args s = true
def lw_Q (_ : Array Value) (s : State) (o : Outcome) (t : State) : Prop := o = .returned (some (.int 1)) ∧ Framed s o t [] 61 2567
def lw_Z (below : List Frame) (a : Array Value) (s : State) : State → Prop := fun t => ∃ o, t.status = .running ∧ Ended t below o ∧ lw_Q a s o t
/-- the law's own end, with 1 on the stack, nothing written that was there before, its room as the claim has it -/
theorem lw_ret {p : Program} {l : Launch} {e : Env} {s : State} {m : MethodId} {below : List Frame} {meth : Method} {c : Code} {b : Nat} (hx : p.tables.exec = Jvm.exec) (hb : c.code = code) (hr : meth.sig.returnType = ret) (hlocks : meth.locks = false) {pc : Nat} {H : Heap} {ls : Array Slot} (hdg : decode code pc = .ok (.ireturn, 1)) : W p l e room_1 s m #[Value.ref b] below meth c H [] 61 2567 (lw_Z below #[Value.ref b] s) (F0 m pc ls [.int 1]) := by
  intro T hT X
  obtain ⟨fs, hret, hrun, hended, hW, hframe⟩ := X.leave (v := some (.int 1)) (hlocks := hlocks) (fun h => by rw [hr] at h; cases h)
  have hmeth' : T.vm.method? m = some meth := X.method'
  refine ⟨T.setFrames fs, ?_, .returned (some (.int 1)), hrun, hended, rfl, ⟨_, rfl⟩, hW, hframe⟩
  jvm_step X.here [X.here.top, hx, hb, hdg, hmeth', hr, ret, narrow_b1]
  (try refine ⟨rfl, ?_⟩); (try refine ⟨rfl, ?_⟩)
  first | (intro acts; rw [hret _ acts rfl rfl rfl]) | rw [hret _ _ rfl rfl rfl]
  exact Steps.refl _
/-- what holds at the law's entry: the machine, the code, the tables' words (any of lw_tbl by 'hts w (by decide +kernel)'), the script of L ints xs at the cell b, what the Statement gives of the start (any of its parts by flat_of_before) -/
def lw_At (p : Program) (s : State) (m : MethodId) (meth : Method) (c : Code) (b L : Nat) (xs : Nat → Int32) : Prop :=
  p.tables.exec = Jvm.exec ∧ c.code = code ∧ meth.sig.returnType = ret ∧ c.maxLocals = 4 ∧ s.vm.findClass R_law = some m.cls ∧ (∀ w ∈ lw_tbl, w.before #[Value.ref b] s = true) ∧ va_X b L xs s s.heap ∧ b < s.heap.size ∧ meth.locks = false ∧ (Jvm.Cond.and given_1 narrow_1).before #[Value.ref b] s = true
/-! by hand: rules for the law -/
abbrev mi_law : Mi := (false, yL_law, cL_law, 4, some .boolean, 10, 394)
abbrev φ0 : Unit → Option Value × Mem := fun _ => (none, fun _ _ => 0)
def LwX (X : Cx) (b Ls : Nat) (xs : Nat → Int32) : Prop := va_X b Ls xs (xS X) (xS X).heap ∧ b < (xS X).heap.size ∧ ¬ xA X b ∧ Ls ≤ 2560
abbrev LL (ad : Nat → Nat) (b i : Nat) : List (Nat × Value) := [(3, .int (nI i)), (2, .ref (ad 33)), (1, .ref (ad 0)), (0, .ref b)]
def fdL (a c : Int32) : Int64 := (a.toInt64 <<< ((32 : Int32).toInt64 &&& 63)) ||| (c.toInt64 &&& 4294967295)
section GL
variable {β : Type} {X : Cx} {ad : Nat → Nat} {mi mj : Mi} {φ : β → Option Value × Mem} {pc n index : Nat} {L L' : List (Nat × Value)} {st stk : List Value} {M : Mem} {o : Option β}
theorem G_if_eqT {x : Int32} {off : Int} (tgt : Nat) (hd : decode (mcc mi) pc = .ok (.ifCond .eq off, 3)) (ht : (pc : Int) + off = (tgt : Int)) (h : x = 0) (K : G X ad mi φ tgt L st M o) : G X ad mi φ pc L (.int x :: st) M o := by
  have q := G_if_eq (φ := φ) tgt (a := o) (b := o) hd ht (fun _ => K) (fun z => absurd h z)
  rw [ite_self] at q; exact q
theorem G_if_eqF {x : Int32} {off : Int} (tgt : Nat) (hd : decode (mcc mi) pc = .ok (.ifCond .eq off, 3)) (ht : (pc : Int) + off = (tgt : Int)) (h : ¬ x = 0) (K : G X ad mi φ (pc + 3) L st M o) : G X ad mi φ pc L (.int x :: st) M o := by
  have q := G_if_eq (φ := φ) tgt (a := o) (b := o) hd ht (fun z => absurd z h) (fun _ => K)
  rw [ite_self] at q; exact q
theorem G_icmp_eqT {x y : Int32} {off : Int} (tgt : Nat) (hd : decode (mcc mi) pc = .ok (.if_icmp .eq off, 3)) (ht : (pc : Int) + off = (tgt : Int)) (h : x = y) (K : G X ad mi φ tgt L st M o) : G X ad mi φ pc L (.int y :: .int x :: st) M o := by
  have q := G_icmp_eq (φ := φ) tgt (a := o) (b := o) hd ht (fun _ => K) (fun z => absurd h z)
  rw [ite_self] at q; exact q
theorem G_icmp_gtT {x y : Int32} {off : Int} (tgt : Nat) (hd : decode (mcc mi) pc = .ok (.if_icmp .gt off, 3)) (ht : (pc : Int) + off = (tgt : Int)) (kt : y < x → G X ad mi φ tgt L st M o) (kf : ¬ y < x → G X ad mi φ (pc + 3) L st M o) : G X ad mi φ pc L (.int y :: .int x :: st) M o := by
  have q := G_icmp_gt (φ := φ) tgt (a := o) (b := o) hd ht kt kf
  rw [ite_self] at q; exact q
theorem G_sld {b Ls k : Nat} {xs : Nat → Int32} {v : Int32} (hx : LwX X b Ls xs) (hv : v = nI k) (hk : k < Ls) (hd : decode (mcc mi) pc = .ok (.iaload, 1)) (K : G X ad mi φ (pc + 1) L (.int (xs k) :: st) M o) : G X ad mi φ pc L (.int v :: .ref b :: st) M o := by
  subst hv
  intro ok r hr H locs ls h1 h2 h3
  have hL := hx.2.2.2
  refine va_sld ok.hx ok.hb hx.1 hx.2.1 hx.2.2.1 h3 (vp_in_nI hk (by omega)) hd ?_
  rw [nI_clamp (by omega)]
  exact K ok r hr H locs ls h1 h2 h3
theorem G_slen {b Ls : Nat} {xs : Nat → Int32} (hx : LwX X b Ls xs) (hd : decode (mcc mi) pc = .ok (.arraylength, 1)) (K : G X ad mi φ (pc + 1) L (.int (nI Ls) :: st) M o) : G X ad mi φ pc L (.ref b :: st) M o :=
  fun ok r hr H locs ls h1 h2 h3 => va_slen ok.hx ok.hb hx.1 hx.2.1 hx.2.2.1 h3 hd (K ok r hr H locs ls h1 h2 h3)
/-- script[i + j] -/
theorem G_arg {b Ls i j : Nat} {z : Int} {xs : Nat → Int32} (hx : LwX X b Ls xs) (d0 : decode (mcc mi) pc = .ok (.aload_n 0, 1)) (d1 : decode (mcc mi) (pc + 1) = .ok (.iload_n 3, 1)) (d2 : decode (mcc mi) (pc + 1 + 1) = .ok (.iconst z, 1)) (d3 : decode (mcc mi) (pc + 1 + 1 + 1) = .ok (.iadd, 1)) (d4 : decode (mcc mi) (pc + 1 + 1 + 1 + 1) = .ok (.iaload, 1)) (hz : Int32.ofInt z = nI j) (hk : i + j < Ls)
    (K : G X ad mi φ (pc + 1 + 1 + 1 + 1 + 1) (LL ad b i) (.int (xs (i + j)) :: st) M o) : G X ad mi φ pc (LL ad b i) st M o := by
  refine G_aload_n d0 3 rfl ?_
  refine G_iload_n d1 0 rfl ?_
  refine G_iconst (v := nI j) d2 hz ?_
  refine G_iadd d3 ?_
  exact G_sld hx (nI_add i j) hk d4 K
section CL
variable {as : (Nat → Nat) → List Value} {C : String} {T : u_T} {N ci k : Nat} {fs : List (Option Nat)} {o' : Option (Int32 × Mem)} {pA : Ans} {σ : Sg}
theorem G_callW {P : Int32 × Mem → Prop} (hM : MC mj φIM as M o') (hw : wp o' P) (hc : CalV mj n) (hr : RoomOk mi mj) (hl : Cond.methodLink (my mi).cls index (my mj) ∈ TB) (hcl : ClOk ci (my mj).cls T N) (hk : k < 61) (ho : ob k = .inl (ci, fs)) (As : List Value) (has : as ad = .ref (ad k) :: As) (hn : As.length = n) (hst : stk = As.reverse ++ .ref (ad k) :: st) (hcat : (st.map fun v => v.category).sum ≤ 8) (hd : decode (mcc mi) pc = .ok (.invokevirtual index, 3))
    (K : ∀ r, P r → G X ad mi φ (pc + 3) L (.int r.1 :: st) r.2 o) : G X ad mi φ pc L stk M o := by
  subst hst
  intro ok r hr' H locs ls h1 h2 h3
  obtain ⟨r', ho', hp⟩ := hw
  have hMet := hM (xL X) ad (xD X) (xI X) (xZ X) r' ho'
  have hrun := va_runV (H := H) (locs := locs) (cells := xK X) (slots := xN X) (e := xE X) (meth := xMe X) (below := xB X) (As := As) (rest := st) (b := ad k) (C := (my mj).cls) (g := F0 (xM X) pc ls (As.reverse ++ .ref (ad k) :: st)) ⟨ok.hx, ok.hb, ok.hml, ok.hown, ok.hts⟩ hMet ⟨call_cb ok hc.1 hr hl, ok.hts _ hc.2.1, ok.hts _ hc.2.2⟩ ⟨Bw_blind, va_recv (q := ((my mj).cls, T, N)) ok.hK h2 hcl.1 (by rw [wd_get hk, cel_obj ho]), fun U hU hW => ⟨by rw [has], call_pre ok (As := As) h2 U hU hW⟩⟩ rfl hn h1.1 rfl (lv_room hcat) hd ⟨ok.hR.2.2.1, ok.hR.2.2.2⟩
  exact W_callw hrun h3 ok.hA (fun H1 locs1 a1 a2 => K r' hp ok r hr' H1 locs1 ls h1 a1 a2)
theorem G_callEC (hM : MC mj φIM as M o') (hw : wp o' (EC pA M)) (hm : RM M σ) (hc : CalV mj n) (hr : RoomOk mi mj) (hl : Cond.methodLink (my mi).cls index (my mj) ∈ TB) (hcl : ClOk ci (my mj).cls T N) (hk : k < 61) (ho : ob k = .inl (ci, fs)) (As : List Value) (has : as ad = .ref (ad k) :: As) (hn : As.length = n) (hst : stk = As.reverse ++ .ref (ad k) :: st) (hcat : (st.map fun v => v.category).sum ≤ 8) (hd : decode (mcc mi) pc = .ok (.invokevirtual index, 3))
    (K : ∀ M', RC M' pA.1 → RM M' σ → G X ad mi φ (pc + 3) L (.int pA.2 :: st) M' o) : G X ad mi φ pc L stk M o := by
  refine G_callW hM hw hc hr hl hcl hk ho As has hn hst hcat hd (fun r hp => ?_)
  obtain ⟨h1, h2, h3⟩ := hp
  rw [h1]
  exact K r.2 h2 (hm.hi h3)
theorem G_callEM (hM : MC mj φIM as M o') (hw : wp o' (EM pA M)) (hC : RC M pA.1) (hc : CalV mj n) (hr : RoomOk mi mj) (hl : Cond.methodLink (my mi).cls index (my mj) ∈ TB) (hcl : ClOk ci (my mj).cls T N) (hk : k < 61) (ho : ob k = .inl (ci, fs)) (As : List Value) (has : as ad = .ref (ad k) :: As) (hn : As.length = n) (hst : stk = As.reverse ++ .ref (ad k) :: st) (hcat : (st.map fun v => v.category).sum ≤ 8) (hd : decode (mcc mi) pc = .ok (.invokevirtual index, 3))
    (K : ∀ M', RC M' pA.1 → RM M' pA.1 → G X ad mi φ (pc + 3) L (.int pA.2 :: st) M' o) : G X ad mi φ pc L stk M o := by
  refine G_callW hM hw hc hr hl hcl hk ho As has hn hst hcat hd (fun r hp => ?_)
  obtain ⟨h1, h2, h3⟩ := hp
  rw [h1]
  exact K r.2 (hC.lo h3) h2
end CL
end GL
