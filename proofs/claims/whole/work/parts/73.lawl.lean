/-! printed by wip/whole/law.py -/
set_option maxHeartbeats 4000000 in
set_option maxRecDepth 100000 in
theorem law_which {X : Cx} {ad : Nat → Nat} {b Ls i : Nat} {xs : Nat → Int32} {M : Mem} {σ : Sg} (hx : LwX X b Ls xs) (hi : i + 5 ≤ Ls) (hw : WF σ) (hc : RC M σ) (hm : RM M σ) (go : ∀ (M' : Mem) (σ' : Sg), WF σ' → RC M' σ' → RM M' σ' → G X ad mi_law φ0 1063 (LL ad b i) [] M' (some ())) (v : Int32) : G X ad mi_law φ0 32 (LL ad b i) [.int v] M (some ()) := by
  by_cases h0 : v = 0
  · exact G_tswIn 0 164 dL_law_32 h0 (by decide) (by decide) rfl (by decide) (lc_persons hx hi hw hc hm go)
  by_cases h1 : v = 1
  · exact G_tswIn 1 187 dL_law_32 h1 (by decide) (by decide) rfl (by decide) (lc_mark hx hi hw hc hm go)
  by_cases h2 : v = 2
  · exact G_tswIn 2 220 dL_law_32 h2 (by decide) (by decide) rfl (by decide) (lc_year hx hi hw hc hm go)
  by_cases h3 : v = 3
  · exact G_tswIn 3 243 dL_law_32 h3 (by decide) (by decide) rfl (by decide) (lc_feed hx hi hw hc hm go)
  by_cases h4 : v = 4
  · exact G_tswIn 4 306 dL_law_32 h4 (by decide) (by decide) rfl (by decide) (lc_ties hx hi hw hc hm go)
  by_cases h5 : v = 5
  · exact G_tswIn 5 319 dL_law_32 h5 (by decide) (by decide) rfl (by decide) (lc_untie hx hi hw hc hm go)
  by_cases h6 : v = 6
  · exact G_tswIn 6 342 dL_law_32 h6 (by decide) (by decide) rfl (by decide) (lc_tie hx hi hw hc hm go)
  by_cases h7 : v = 7
  · exact G_tswIn 7 385 dL_law_32 h7 (by decide) (by decide) rfl (by decide) (lc_degree hx hi hw hc hm go)
  by_cases h8 : v = 8
  · exact G_tswIn 8 444 dL_law_32 h8 (by decide) (by decide) rfl (by decide) (lc_parting hx hi hw hc hm go)
  by_cases h9 : v = 9
  · exact G_tswIn 9 467 dL_law_32 h9 (by decide) (by decide) rfl (by decide) (lc_judge hx hi hw hc hm go)
  by_cases h10 : v = 10
  · exact G_tswIn 10 500 dL_law_32 h10 (by decide) (by decide) rfl (by decide) (lc_coarsest hx hi hw hc hm go)
  by_cases h11 : v = 11
  · exact G_tswIn 11 533 dL_law_32 h11 (by decide) (by decide) rfl (by decide) (lc_renamings hx hi hw hc hm go)
  by_cases h12 : v = 12
  · exact G_tswIn 12 546 dL_law_32 h12 (by decide) (by decide) rfl (by decide) (lc_moves hx hi hw hc hm go)
  by_cases h13 : v = 13
  · exact G_tswIn 13 579 dL_law_32 h13 (by decide) (by decide) rfl (by decide) (lc_orbits hx hi hw hc hm go)
  by_cases h14 : v = 14
  · exact G_tswIn 14 592 dL_law_32 h14 (by decide) (by decide) rfl (by decide) (lc_form hx hi hw hc hm go)
  by_cases h15 : v = 15
  · exact G_tswIn 15 605 dL_law_32 h15 (by decide) (by decide) rfl (by decide) (lc_next hx hi hw hc hm go)
  by_cases h16 : v = 16
  · exact G_tswIn 16 638 dL_law_32 h16 (by decide) (by decide) rfl (by decide) (lc_all hx hi hw hc hm go)
  by_cases h17 : v = 17
  · exact G_tswIn 17 661 dL_law_32 h17 (by decide) (by decide) rfl (by decide) (lc_join hx hi hw hc hm go)
  by_cases h18 : v = 18
  · exact G_tswIn 18 694 dL_law_32 h18 (by decide) (by decide) rfl (by decide) (lc_meet hx hi hw hc hm go)
  by_cases h19 : v = 19
  · exact G_tswIn 19 727 dL_law_32 h19 (by decide) (by decide) rfl (by decide) (lc_picture hx hi hw hc hm go)
  by_cases h20 : v = 20
  · exact G_tswIn 20 780 dL_law_32 h20 (by decide) (by decide) rfl (by decide) (lc_wrong hx hi hw hc hm go)
  by_cases h21 : v = 21
  · exact G_tswIn 21 803 dL_law_32 h21 (by decide) (by decide) rfl (by decide) (lc_least hx hi hw hc hm go)
  by_cases h22 : v = 22
  · exact G_tswIn 22 836 dL_law_32 h22 (by decide) (by decide) rfl (by decide) (lc_spoils hx hi hw hc hm go)
  by_cases h23 : v = 23
  · exact G_tswIn 23 869 dL_law_32 h23 (by decide) (by decide) rfl (by decide) (lc_newcomer hx hi hw hc hm go)
  by_cases h24 : v = 24
  · exact G_tswIn 24 928 dL_law_32 h24 (by decide) (by decide) rfl (by decide) (lc_fits hx hi hw hc hm go)
  by_cases h25 : v = 25
  · exact G_tswIn 25 951 dL_law_32 h25 (by decide) (by decide) rfl (by decide) (lc_gone hx hi hw hc hm go)
  by_cases h26 : v = 26
  · exact G_tswIn 26 964 dL_law_32 h26 (by decide) (by decide) rfl (by decide) (lc_shift hx hi hw hc hm go)
  by_cases h27 : v = 27
  · exact G_tswIn 27 1007 dL_law_32 h27 (by decide) (by decide) rfl (by decide) (lc_stays hx hi hw hc hm go)
  by_cases h28 : v = 28
  · exact G_tswIn 28 1040 dL_law_32 h28 (by decide) (by decide) rfl (by decide) (lc_count hx hi hw hc hm go)
  exact G_tswOut 1063 dL_law_32 (by have e0 := lv_neT h0 (k := 0) (a := 0) rfl; have e1 := lv_neT h1 (k := 1) (a := 1) rfl; have e2 := lv_neT h2 (k := 2) (a := 2) rfl; have e3 := lv_neT h3 (k := 3) (a := 3) rfl; have e4 := lv_neT h4 (k := 4) (a := 4) rfl; have e5 := lv_neT h5 (k := 5) (a := 5) rfl; have e6 := lv_neT h6 (k := 6) (a := 6) rfl; have e7 := lv_neT h7 (k := 7) (a := 7) rfl; have e8 := lv_neT h8 (k := 8) (a := 8) rfl; have e9 := lv_neT h9 (k := 9) (a := 9) rfl; have e10 := lv_neT h10 (k := 10) (a := 10) rfl; have e11 := lv_neT h11 (k := 11) (a := 11) rfl; have e12 := lv_neT h12 (k := 12) (a := 12) rfl; have e13 := lv_neT h13 (k := 13) (a := 13) rfl; have e14 := lv_neT h14 (k := 14) (a := 14) rfl; have e15 := lv_neT h15 (k := 15) (a := 15) rfl; have e16 := lv_neT h16 (k := 16) (a := 16) rfl; have e17 := lv_neT h17 (k := 17) (a := 17) rfl; have e18 := lv_neT h18 (k := 18) (a := 18) rfl; have e19 := lv_neT h19 (k := 19) (a := 19) rfl; have e20 := lv_neT h20 (k := 20) (a := 20) rfl; have e21 := lv_neT h21 (k := 21) (a := 21) rfl; have e22 := lv_neT h22 (k := 22) (a := 22) rfl; have e23 := lv_neT h23 (k := 23) (a := 23) rfl; have e24 := lv_neT h24 (k := 24) (a := 24) rfl; have e25 := lv_neT h25 (k := 25) (a := 25) rfl; have e26 := lv_neT h26 (k := 26) (a := 26) rfl; have e27 := lv_neT h27 (k := 27) (a := 27) rfl; have e28 := lv_neT h28 (k := 28) (a := 28) rfl; omega) (by decide) (go M σ hw hc hm)
