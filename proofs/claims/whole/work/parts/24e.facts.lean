theorem xm_own {L : List Cond} (h : (L.all fun w => (decide (w ∈ lw_tbl) && goodWord w) || decide (w ∈ xm_z)) = true) : ∀ w ∈ L, w ∈ xp_T xm_P ∨ w ∈ xp_z xm_P := by
  intro w hw
  have h1 := List.all_eq_true.mp h w hw
  rw [Bool.or_eq_true, Bool.and_eq_true, decide_eq_true_eq, decide_eq_true_eq] at h1
  rcases h1 with ⟨a, b⟩ | a
  · exact Or.inl (xw_of (List.mem_cons_of_mem _ a) b)
  · exact Or.inr a
/-- a switch's table by its rows -/
theorem xs_miss {ρ : Type} {x : Int32} {k : Nat → Option ρ} {d : Nat} : ∀ {tab : List (Int32 × Nat)}, (∀ q ∈ tab, x ≠ q.1) → xr_sw x k d tab = k d
  | [], _ => rfl
  | q :: r, h => by
    unfold xr_sw
    rw [if_neg (h q List.mem_cons_self)]
    exact xs_miss (fun z hz => h z (List.mem_cons_of_mem _ hz))
theorem xs_hit {ρ : Type} {x : Int32} {k : Nat → Option ρ} {d t : Nat} : ∀ {tab : List (Int32 × Nat)} (j : Nat), tab[j]? = some (x, t) → (∀ i, i < j → ∀ q, tab[i]? = some q → x ≠ q.1) → xr_sw x k d tab = k t
  | [], _, h, _ => by simp at h
  | q :: r, 0, h, _ => by
    have h : q = (x, t) := by simpa using h
    unfold xr_sw
    rw [h, if_pos rfl]
  | q :: r, j + 1, h, hn => by
    unfold xr_sw
    rw [if_neg (hn 0 (Nat.succ_pos j) q (by simp))]
    exact xs_hit j (by simpa using h) (fun i hi z hz => hn (i + 1) (Nat.succ_lt_succ hi) z (by simpa using hz))
theorem xs_of {pc d : Nat} {lo hi : Int} {offs : Array Int} {tab : List (Int32 × Nat)} (h1 : tab.map (fun q => (q.1.toInt, (q.2 : Int))) = (List.range offs.size).map (fun j : Nat => (lo + (j : Int), (pc : Int) + offs.getD j 0))) (h2 : hi = lo + (offs.size : Int) - 1) : xr_tsw pc lo hi offs tab d := by
  have hlen : tab.length = offs.size := by
    have := congrArg List.length h1
    simpa using this
  have hat : ∀ (j : Nat) (q : Int32 × Nat), tab[j]? = some q → j < offs.size ∧ q.1.toInt = lo + (j : Int) ∧ (q.2 : Int) = (pc : Int) + offs.getD j 0 := by
    intro j q hq
    have hj : j < tab.length := (List.getElem?_eq_some_iff.mp hq).1
    have e1 := congrArg (fun l => l[j]?) h1
    simp only [List.getElem?_map, hq, Option.map_some] at e1
    rw [List.getElem?_range (by omega)] at e1
    simp only [Option.map_some, Option.some.injEq, Prod.mk.injEq] at e1
    exact ⟨by omega, e1.1, e1.2⟩
  intro x
  by_cases hx : x.toInt < lo ∨ hi < x.toInt
  · refine Or.inl ⟨hx, fun k => xs_miss (fun q hq e => ?_)⟩
    obtain ⟨j, hj⟩ := List.mem_iff_getElem?.mp hq
    obtain ⟨a1, a2, -⟩ := hat j q hj
    rw [← e] at a2
    omega
  · have g1 : ¬ x.toInt < lo := fun z => hx (Or.inl z)
    have g2 : ¬ hi < x.toInt := fun z => hx (Or.inr z)
    obtain ⟨j, hj⟩ : ∃ j : Nat, (x.toInt - lo).toNat = j := ⟨_, rfl⟩
    have hjs : j < offs.size := by omega
    have hjt : j < tab.length := by omega
    obtain ⟨a1, a2, a3⟩ := hat j tab[j] (List.getElem?_eq_getElem hjt)
    have ex : x = tab[j].1 := by
      apply Int32.toInt_inj.mp
      omega
    refine Or.inr ⟨g1, g2, offs.getD j 0, tab[j].2, ?_, a3.symm, fun k => xs_hit j ?_ ?_⟩
    · rw [hj]
      simp [Array.getElem?_eq_getElem hjs, hjs]
    · rw [List.getElem?_eq_getElem hjt, ex]
    · intro i hi9 q hq e
      obtain ⟨b1, b2, -⟩ := hat i q hq
      rw [← e] at b2
      omega
theorem xm_s0 : ("ExchangeText", 89, "a byte is no character of a text") ∈ xp_s xm_P := List.mem_of_getElem? (i := 0) rfl
theorem xm_s1 : ("ExchangeText", 100, "the text would be too long") ∈ xp_s xm_P := List.mem_of_getElem? (i := 1) rfl
theorem xm_s2 : ("ExchangeText", 107, "there are not so many characters") ∈ xp_s xm_P := List.mem_of_getElem? (i := 2) rfl
theorem xm_s3 : ("ExchangeText", 109, "there is no such character") ∈ xp_s xm_P := List.mem_of_getElem? (i := 3) rfl
theorem xm_s4 : ("ExchangeText", 253, "out of its bounds, or there is none such") ∈ xp_s xm_P := List.mem_of_getElem? (i := 4) rfl
theorem xm_at0 : ∀ w ∈ Bundle.ownAtoms "ExchangeText" 91 "java/lang/IllegalArgumentException" ["java/lang/RuntimeException", "java/lang/Exception"], w ∈ xp_T xm_P ∨ w ∈ xp_z xm_P := xm_own (by decide +kernel)
theorem xm_at1 : ∀ w ∈ Bundle.ownAtoms "ExchangeText" 102 "java/lang/IllegalStateException" ["java/lang/RuntimeException", "java/lang/Exception"], w ∈ xp_T xm_P ∨ w ∈ xp_z xm_P := xm_own (by decide +kernel)
theorem xm_rl0 : xr_rl xm_P 0 := ⟨by decide, by decide⟩
theorem xm_rl1 : xr_rl xm_P 1 := ⟨by decide, by decide⟩
theorem xm_rl2 : xr_rl xm_P 2 := ⟨by decide, by decide⟩
theorem xm_rl3 : xr_rl xm_P 3 := ⟨by decide, by decide⟩
theorem xm_rl4 : xr_rl xm_P 4 := ⟨by decide, by decide⟩
theorem xm_rl5 : xr_rl xm_P 5 := ⟨by decide, by decide⟩
theorem xm_rl6 : xr_rl xm_P 6 := ⟨by decide, by decide⟩
theorem xm_rl7 : xr_rl xm_P 7 := ⟨by decide, by decide⟩
theorem xm_rl8 : xr_rl xm_P 8 := ⟨by decide, by decide⟩
theorem xm_rl9 : xr_rl xm_P 9 := ⟨by decide, by decide⟩
theorem xm_rl10 : xr_rl xm_P 10 := ⟨by decide, by decide⟩
theorem xm_rl11 : xr_rl xm_P 11 := ⟨by decide, by decide⟩
theorem xm_rl12 : xr_rl xm_P 12 := ⟨by decide, by decide⟩
theorem xm_rl13 : xr_rl xm_P 13 := ⟨by decide, by decide⟩
theorem xm_rl14 : xr_rl xm_P 14 := ⟨by decide, by decide⟩
theorem xm_rl15 : xr_rl xm_P 15 := ⟨by decide, by decide⟩
theorem xm_rl16 : xr_rl xm_P 16 := ⟨by decide, by decide⟩
theorem xm_rl17 : xr_rl xm_P 17 := ⟨by decide, by decide⟩
theorem xm_rl18 : xr_rl xm_P 18 := ⟨by decide, by decide⟩
theorem xm_rl19 : xr_rl xm_P 19 := ⟨by decide, by decide⟩
theorem xm_rl20 : xr_rl xm_P 20 := ⟨by decide, by decide⟩
theorem xm_rl21 : xr_rl xm_P 21 := ⟨by decide, by decide⟩
theorem xm_rl22 : xr_rl xm_P 22 := ⟨by decide, by decide⟩
theorem xm_rl23 : xr_rl xm_P 23 := ⟨by decide, by decide⟩
theorem xm_rl24 : xr_rl xm_P 24 := ⟨by decide, by decide⟩
theorem xm_rl25 : xr_rl xm_P 25 := ⟨by decide, by decide⟩
theorem xm_rl26 : xr_rl xm_P 26 := ⟨by decide, by decide⟩
theorem xm_rl27 : xr_rl xm_P 27 := ⟨by decide, by decide⟩
theorem xm_rl28 : xr_rl xm_P 28 := ⟨by decide, by decide⟩
theorem xm_rl29 : xr_rl xm_P 29 := ⟨by decide, by decide⟩
theorem xm_rl30 : xr_rl xm_P 30 := ⟨by decide, by decide⟩
theorem xm_rl31 : xr_rl xm_P 31 := ⟨by decide, by decide⟩
theorem xm_rl32 : xr_rl xm_P 32 := ⟨by decide, by decide⟩
theorem xm_rl33 : xr_rl xm_P 33 := ⟨by decide, by decide⟩
theorem xm_rl34 : xr_rl xm_P 34 := ⟨by decide, by decide⟩
theorem xm_rl35 : xr_rl xm_P 35 := ⟨by decide, by decide⟩
theorem xm_rl36 : xr_rl xm_P 36 := ⟨by decide, by decide⟩
theorem xm_rl37 : xr_rl xm_P 37 := ⟨by decide, by decide⟩
theorem xm_rl38 : xr_rl xm_P 38 := ⟨by decide, by decide⟩
theorem xm_rl39 : xr_rl xm_P 39 := ⟨by decide, by decide⟩
theorem xm_rl40 : xr_rl xm_P 40 := ⟨by decide, by decide⟩
theorem xm_rl41 : xr_rl xm_P 41 := ⟨by decide, by decide⟩
theorem xm_rl42 : xr_rl xm_P 42 := ⟨by decide, by decide⟩
theorem xm_rl43 : xr_rl xm_P 43 := ⟨by decide, by decide⟩
theorem xm_rl44 : xr_rl xm_P 44 := ⟨by decide, by decide⟩
theorem xm_rl45 : xr_rl xm_P 45 := ⟨by decide, by decide⟩
theorem xm_rl46 : xr_rl xm_P 46 := ⟨by decide, by decide⟩
theorem xm_rl47 : xr_rl xm_P 47 := ⟨by decide, by decide⟩
theorem xm_rl48 : xr_rl xm_P 48 := ⟨by decide, by decide⟩
theorem xm_rl49 : xr_rl xm_P 49 := ⟨by decide, by decide⟩
theorem xm_rl50 : xr_rl xm_P 50 := ⟨by decide, by decide⟩
theorem xm_rl51 : xr_rl xm_P 51 := ⟨by decide, by decide⟩
theorem xm_rl52 : xr_rl xm_P 52 := ⟨by decide, by decide⟩
theorem xm_rl53 : xr_rl xm_P 53 := ⟨by decide, by decide⟩
theorem xm_rl54 : xr_rl xm_P 54 := ⟨by decide, by decide⟩
theorem xm_rl55 : xr_rl xm_P 55 := ⟨by decide, by decide⟩
theorem xm_rl56 : xr_rl xm_P 56 := ⟨by decide, by decide⟩
theorem xm_rl57 : xr_rl xm_P 57 := ⟨by decide, by decide⟩
theorem xm_rl58 : xr_rl xm_P 58 := ⟨by decide, by decide⟩
theorem xm_rl59 : xr_rl xm_P 59 := ⟨by decide, by decide⟩
theorem xm_rl60 : xr_rl xm_P 60 := ⟨by decide, by decide⟩
theorem xm_rl61 : xr_rl xm_P 61 := ⟨by decide, by decide⟩
theorem xm_rl62 : xr_rl xm_P 62 := ⟨by decide, by decide⟩
theorem xm_rl63 : xr_rl xm_P 63 := ⟨by decide, by decide⟩
theorem xm_rl64 : xr_rl xm_P 64 := ⟨by decide, by decide⟩
theorem xm_rl65 : xr_rl xm_P 65 := ⟨by decide, by decide⟩
theorem xm_rl66 : xr_rl xm_P 66 := ⟨by decide, by decide⟩
theorem xm_rl67 : xr_rl xm_P 67 := ⟨by decide, by decide⟩
theorem xm_rl68 : xr_rl xm_P 68 := ⟨by decide, by decide⟩
theorem xm_rl69 : xr_rl xm_P 69 := ⟨by decide, by decide⟩
theorem xm_rl70 : xr_rl xm_P 70 := ⟨by decide, by decide⟩
theorem xm_rl71 : xr_rl xm_P 71 := ⟨by decide, by decide⟩
theorem xm_rl72 : xr_rl xm_P 72 := ⟨by decide, by decide⟩
theorem xm_rl73 : xr_rl xm_P 73 := ⟨by decide, by decide⟩
theorem xm_rl74 : xr_rl xm_P 74 := ⟨by decide, by decide⟩
theorem xm_rl75 : xr_rl xm_P 75 := ⟨by decide, by decide⟩
theorem xm_rl76 : xr_rl xm_P 76 := ⟨by decide, by decide⟩
theorem xm_rl77 : xr_rl xm_P 77 := ⟨by decide, by decide⟩
theorem xm_rl78 : xr_rl xm_P 78 := ⟨by decide, by decide⟩
theorem xm_rl79 : xr_rl xm_P 79 := ⟨by decide, by decide⟩
theorem xm_rl80 : xr_rl xm_P 80 := ⟨by decide, by decide⟩
theorem xm_rl81 : xr_rl xm_P 81 := ⟨by decide, by decide⟩
theorem xm_rl82 : xr_rl xm_P 82 := ⟨by decide, by decide⟩
theorem xm_rl83 : xr_rl xm_P 83 := ⟨by decide, by decide⟩
theorem xm_rl84 : xr_rl xm_P 84 := ⟨by decide, by decide⟩
theorem xm_rl85 : xr_rl xm_P 85 := ⟨by decide, by decide⟩
theorem xm_rl86 : xr_rl xm_P 86 := ⟨by decide, by decide⟩
theorem xm_rl87 : xr_rl xm_P 87 := ⟨by decide, by decide⟩
theorem xm_rl88 : xr_rl xm_P 88 := ⟨by decide, by decide⟩
theorem xm_rl89 : xr_rl xm_P 89 := ⟨by decide, by decide⟩
theorem xm_rl90 : xr_rl xm_P 90 := ⟨by decide, by decide⟩
theorem xm_rl91 : xr_rl xm_P 91 := ⟨by decide, by decide⟩
theorem xm_rl92 : xr_rl xm_P 92 := ⟨by decide, by decide⟩
theorem xm_rl93 : xr_rl xm_P 93 := ⟨by decide, by decide⟩
theorem xm_rl94 : xr_rl xm_P 94 := ⟨by decide, by decide⟩
theorem xm_rl95 : xr_rl xm_P 95 := ⟨by decide, by decide⟩
theorem xm_rl96 : xr_rl xm_P 96 := ⟨by decide, by decide⟩
theorem xm_rl97 : xr_rl xm_P 97 := ⟨by decide, by decide⟩
theorem xm_rl98 : xr_rl xm_P 98 := ⟨by decide, by decide⟩
theorem xm_rl99 : xr_rl xm_P 99 := ⟨by decide, by decide⟩
theorem xm_rl100 : xr_rl xm_P 100 := ⟨by decide, by decide⟩
theorem xm_rl101 : xr_rl xm_P 101 := ⟨by decide, by decide⟩
theorem xm_rl102 : xr_rl xm_P 102 := ⟨by decide, by decide⟩
theorem xm_rl103 : xr_rl xm_P 103 := ⟨by decide, by decide⟩
theorem xm_rl104 : xr_rl xm_P 104 := ⟨by decide, by decide⟩
theorem xm_rl105 : xr_rl xm_P 105 := ⟨by decide, by decide⟩
theorem xm_rl106 : xr_rl xm_P 106 := ⟨by decide, by decide⟩
theorem xm_rl107 : xr_rl xm_P 107 := ⟨by decide, by decide⟩
theorem xm_rl108 : xr_rl xm_P 108 := ⟨by decide, by decide⟩
theorem xm_rl109 : xr_rl xm_P 109 := ⟨by decide, by decide⟩
theorem xm_rl110 : xr_rl xm_P 110 := ⟨by decide, by decide⟩
theorem xm_rl111 : xr_rl xm_P 111 := ⟨by decide, by decide⟩
theorem xm_rl112 : xr_rl xm_P 112 := ⟨by decide, by decide⟩
theorem xm_rl113 : xr_rl xm_P 113 := ⟨by decide, by decide⟩
theorem xm_rl114 : xr_rl xm_P 114 := ⟨by decide, by decide⟩
theorem xm_rl115 : xr_rl xm_P 115 := ⟨by decide, by decide⟩
theorem xm_rl116 : xr_rl xm_P 116 := ⟨by decide, by decide⟩
theorem xm_rl117 : xr_rl xm_P 117 := ⟨by decide, by decide⟩
theorem xm_rl118 : xr_rl xm_P 118 := ⟨by decide, by decide⟩
theorem xm_rl119 : xr_rl xm_P 119 := ⟨by decide, by decide⟩
theorem xm_rl120 : xr_rl xm_P 120 := ⟨by decide, by decide⟩
theorem xm_rl121 : xr_rl xm_P 121 := ⟨by decide, by decide⟩
theorem xm_rl122 : xr_rl xm_P 122 := ⟨by decide, by decide⟩
theorem xm_rl123 : xr_rl xm_P 123 := ⟨by decide, by decide⟩
theorem xm_rl124 : xr_rl xm_P 124 := ⟨by decide, by decide⟩
theorem xm_rl125 : xr_rl xm_P 125 := ⟨by decide, by decide⟩
theorem xm_rl126 : xr_rl xm_P 126 := ⟨by decide, by decide⟩
theorem xm_rl127 : xr_rl xm_P 127 := ⟨by decide, by decide⟩
theorem xm_rl128 : xr_rl xm_P 128 := ⟨by decide, by decide⟩
theorem xm_rl129 : xr_rl xm_P 129 := ⟨by decide, by decide⟩
theorem xm_rl130 : xr_rl xm_P 130 := ⟨by decide, by decide⟩
theorem xm_rl131 : xr_rl xm_P 131 := ⟨by decide, by decide⟩
theorem xm_rl132 : xr_rl xm_P 132 := ⟨by decide, by decide⟩
theorem xm_rl133 : xr_rl xm_P 133 := ⟨by decide, by decide⟩
theorem xm_rl134 : xr_rl xm_P 134 := ⟨by decide, by decide⟩
theorem xm_rl135 : xr_rl xm_P 135 := ⟨by decide, by decide⟩
theorem xm_rl136 : xr_rl xm_P 136 := ⟨by decide, by decide⟩
theorem xm_rl137 : xr_rl xm_P 137 := ⟨by decide, by decide⟩
theorem xm_rl138 : xr_rl xm_P 138 := ⟨by decide, by decide⟩
theorem xm_rl139 : xr_rl xm_P 139 := ⟨by decide, by decide⟩
theorem xm_rl140 : xr_rl xm_P 140 := ⟨by decide, by decide⟩
theorem xm_rl141 : xr_rl xm_P 141 := ⟨by decide, by decide⟩
theorem xm_rl142 : xr_rl xm_P 142 := ⟨by decide, by decide⟩
theorem xm_rl143 : xr_rl xm_P 143 := ⟨by decide, by decide⟩
theorem xm_rl144 : xr_rl xm_P 144 := ⟨by decide, by decide⟩
theorem xm_rl145 : xr_rl xm_P 145 := ⟨by decide, by decide⟩
theorem xm_rl146 : xr_rl xm_P 146 := ⟨by decide, by decide⟩
theorem xm_rl147 : xr_rl xm_P 147 := ⟨by decide, by decide⟩
theorem xm_rl148 : xr_rl xm_P 148 := ⟨by decide, by decide⟩
theorem xm_rl149 : xr_rl xm_P 149 := ⟨by decide, by decide⟩
theorem xm_rl150 : xr_rl xm_P 150 := ⟨by decide, by decide⟩
theorem xm_rl151 : xr_rl xm_P 151 := ⟨by decide, by decide⟩
theorem xm_rl152 : xr_rl xm_P 152 := ⟨by decide, by decide⟩
theorem xm_rl153 : xr_rl xm_P 153 := ⟨by decide, by decide⟩
theorem xm_rl154 : xr_rl xm_P 154 := ⟨by decide, by decide⟩
theorem xm_rl155 : xr_rl xm_P 155 := ⟨by decide, by decide⟩
theorem xm_rl156 : xr_rl xm_P 156 := ⟨by decide, by decide⟩
theorem xm_rl157 : xr_rl xm_P 157 := ⟨by decide, by decide⟩
theorem xm_rl158 : xr_rl xm_P 158 := ⟨by decide, by decide⟩
theorem xm_rl159 : xr_rl xm_P 159 := ⟨by decide, by decide⟩
theorem xm_rl160 : xr_rl xm_P 160 := ⟨by decide, by decide⟩
theorem xm_rl161 : xr_rl xm_P 161 := ⟨by decide, by decide⟩
theorem xm_rl162 : xr_rl xm_P 162 := ⟨by decide, by decide⟩
theorem xm_rl163 : xr_rl xm_P 163 := ⟨by decide, by decide⟩
theorem xm_rl164 : xr_rl xm_P 164 := ⟨by decide, by decide⟩
theorem xm_rl165 : xr_rl xm_P 165 := ⟨by decide, by decide⟩
theorem xm_rl166 : xr_rl xm_P 166 := ⟨by decide, by decide⟩
theorem xm_rl167 : xr_rl xm_P 167 := ⟨by decide, by decide⟩
theorem xm_rl168 : xr_rl xm_P 168 := ⟨by decide, by decide⟩
theorem xm_rl169 : xr_rl xm_P 169 := ⟨by decide, by decide⟩
theorem xm_rl170 : xr_rl xm_P 170 := ⟨by decide, by decide⟩
theorem xm_rl171 : xr_rl xm_P 171 := ⟨by decide, by decide⟩
theorem xm_rl172 : xr_rl xm_P 172 := ⟨by decide, by decide⟩
theorem xm_rl173 : xr_rl xm_P 173 := ⟨by decide, by decide⟩
theorem xm_rl174 : xr_rl xm_P 174 := ⟨by decide, by decide⟩
theorem xm_rl175 : xr_rl xm_P 175 := ⟨by decide, by decide⟩
theorem xm_rl176 : xr_rl xm_P 176 := ⟨by decide, by decide⟩
theorem xm_rl177 : xr_rl xm_P 177 := ⟨by decide, by decide⟩
theorem xm_rl178 : xr_rl xm_P 178 := ⟨by decide, by decide⟩
theorem xm_rl179 : xr_rl xm_P 179 := ⟨by decide, by decide⟩
theorem xm_rl180 : xr_rl xm_P 180 := ⟨by decide, by decide⟩
theorem xm_rl181 : xr_rl xm_P 181 := ⟨by decide, by decide⟩
theorem xm_rl182 : xr_rl xm_P 182 := ⟨by decide, by decide⟩
theorem xm_rl183 : xr_rl xm_P 183 := ⟨by decide, by decide⟩
theorem xm_rl184 : xr_rl xm_P 184 := ⟨by decide, by decide⟩
theorem xm_rl185 : xr_rl xm_P 185 := ⟨by decide, by decide⟩
theorem xm_rl186 : xr_rl xm_P 186 := ⟨by decide, by decide⟩
theorem xm_nd0 : xm_y0.cls ≠ "java/lang/invoke/MethodHandle" ∧ xm_y0.cls ≠ "java/lang/invoke/VarHandle" ∧ (parseMethodDescriptor xm_y0.desc).map (fun d => d.parameters.length) = some 0 := by decide +kernel
theorem xm_nd1 : xm_y1.cls ≠ "java/lang/invoke/MethodHandle" ∧ xm_y1.cls ≠ "java/lang/invoke/VarHandle" ∧ (parseMethodDescriptor xm_y1.desc).map (fun d => d.parameters.length) = some 1 := by decide +kernel
theorem xm_nd2 : xm_y2.cls ≠ "java/lang/invoke/MethodHandle" ∧ xm_y2.cls ≠ "java/lang/invoke/VarHandle" ∧ (parseMethodDescriptor xm_y2.desc).map (fun d => d.parameters.length) = some 1 := by decide +kernel
theorem xm_nd3 : xm_y3.cls ≠ "java/lang/invoke/MethodHandle" ∧ xm_y3.cls ≠ "java/lang/invoke/VarHandle" ∧ (parseMethodDescriptor xm_y3.desc).map (fun d => d.parameters.length) = some 1 := by decide +kernel
theorem xm_nd4 : xm_y4.cls ≠ "java/lang/invoke/MethodHandle" ∧ xm_y4.cls ≠ "java/lang/invoke/VarHandle" ∧ (parseMethodDescriptor xm_y4.desc).map (fun d => d.parameters.length) = some 0 := by decide +kernel
theorem xm_nd5 : xm_y5.cls ≠ "java/lang/invoke/MethodHandle" ∧ xm_y5.cls ≠ "java/lang/invoke/VarHandle" ∧ (parseMethodDescriptor xm_y5.desc).map (fun d => d.parameters.length) = some 0 := by decide +kernel
theorem xm_nd6 : xm_y6.cls ≠ "java/lang/invoke/MethodHandle" ∧ xm_y6.cls ≠ "java/lang/invoke/VarHandle" ∧ (parseMethodDescriptor xm_y6.desc).map (fun d => d.parameters.length) = some 0 := by decide +kernel
theorem xm_nd7 : xm_y7.cls ≠ "java/lang/invoke/MethodHandle" ∧ xm_y7.cls ≠ "java/lang/invoke/VarHandle" ∧ (parseMethodDescriptor xm_y7.desc).map (fun d => d.parameters.length) = some 0 := by decide +kernel
theorem xm_nd8 : xm_y8.cls ≠ "java/lang/invoke/MethodHandle" ∧ xm_y8.cls ≠ "java/lang/invoke/VarHandle" ∧ (parseMethodDescriptor xm_y8.desc).map (fun d => d.parameters.length) = some 1 := by decide +kernel
theorem xm_nd9 : xm_y9.cls ≠ "java/lang/invoke/MethodHandle" ∧ xm_y9.cls ≠ "java/lang/invoke/VarHandle" ∧ (parseMethodDescriptor xm_y9.desc).map (fun d => d.parameters.length) = some 2 := by decide +kernel
theorem xm_nd10 : xm_y10.cls ≠ "java/lang/invoke/MethodHandle" ∧ xm_y10.cls ≠ "java/lang/invoke/VarHandle" ∧ (parseMethodDescriptor xm_y10.desc).map (fun d => d.parameters.length) = some 3 := by decide +kernel
theorem xm_nd11 : xm_y11.cls ≠ "java/lang/invoke/MethodHandle" ∧ xm_y11.cls ≠ "java/lang/invoke/VarHandle" ∧ (parseMethodDescriptor xm_y11.desc).map (fun d => d.parameters.length) = some 3 := by decide +kernel
theorem xm_nd12 : xm_y12.cls ≠ "java/lang/invoke/MethodHandle" ∧ xm_y12.cls ≠ "java/lang/invoke/VarHandle" ∧ (parseMethodDescriptor xm_y12.desc).map (fun d => d.parameters.length) = some 3 := by decide +kernel
theorem xm_nd13 : xm_y13.cls ≠ "java/lang/invoke/MethodHandle" ∧ xm_y13.cls ≠ "java/lang/invoke/VarHandle" ∧ (parseMethodDescriptor xm_y13.desc).map (fun d => d.parameters.length) = some 2 := by decide +kernel
theorem xm_nd14 : xm_y14.cls ≠ "java/lang/invoke/MethodHandle" ∧ xm_y14.cls ≠ "java/lang/invoke/VarHandle" ∧ (parseMethodDescriptor xm_y14.desc).map (fun d => d.parameters.length) = some 2 := by decide +kernel
theorem xm_nd15 : xm_y15.cls ≠ "java/lang/invoke/MethodHandle" ∧ xm_y15.cls ≠ "java/lang/invoke/VarHandle" ∧ (parseMethodDescriptor xm_y15.desc).map (fun d => d.parameters.length) = some 1 := by decide +kernel
theorem xm_nd16 : xm_y16.cls ≠ "java/lang/invoke/MethodHandle" ∧ xm_y16.cls ≠ "java/lang/invoke/VarHandle" ∧ (parseMethodDescriptor xm_y16.desc).map (fun d => d.parameters.length) = some 2 := by decide +kernel
theorem xm_nd17 : xm_y17.cls ≠ "java/lang/invoke/MethodHandle" ∧ xm_y17.cls ≠ "java/lang/invoke/VarHandle" ∧ (parseMethodDescriptor xm_y17.desc).map (fun d => d.parameters.length) = some 2 := by decide +kernel
theorem xm_nd18 : xm_y18.cls ≠ "java/lang/invoke/MethodHandle" ∧ xm_y18.cls ≠ "java/lang/invoke/VarHandle" ∧ (parseMethodDescriptor xm_y18.desc).map (fun d => d.parameters.length) = some 0 := by decide +kernel
theorem xm_nd19 : xm_y19.cls ≠ "java/lang/invoke/MethodHandle" ∧ xm_y19.cls ≠ "java/lang/invoke/VarHandle" ∧ (parseMethodDescriptor xm_y19.desc).map (fun d => d.parameters.length) = some 2 := by decide +kernel
theorem xm_nd20 : xm_y20.cls ≠ "java/lang/invoke/MethodHandle" ∧ xm_y20.cls ≠ "java/lang/invoke/VarHandle" ∧ (parseMethodDescriptor xm_y20.desc).map (fun d => d.parameters.length) = some 1 := by decide +kernel
theorem xm_nd21 : xm_y21.cls ≠ "java/lang/invoke/MethodHandle" ∧ xm_y21.cls ≠ "java/lang/invoke/VarHandle" ∧ (parseMethodDescriptor xm_y21.desc).map (fun d => d.parameters.length) = some 1 := by decide +kernel
theorem xm_nd22 : xm_y22.cls ≠ "java/lang/invoke/MethodHandle" ∧ xm_y22.cls ≠ "java/lang/invoke/VarHandle" ∧ (parseMethodDescriptor xm_y22.desc).map (fun d => d.parameters.length) = some 1 := by decide +kernel
theorem xm_nd23 : xm_y23.cls ≠ "java/lang/invoke/MethodHandle" ∧ xm_y23.cls ≠ "java/lang/invoke/VarHandle" ∧ (parseMethodDescriptor xm_y23.desc).map (fun d => d.parameters.length) = some 2 := by decide +kernel
theorem xm_nd24 : xm_y24.cls ≠ "java/lang/invoke/MethodHandle" ∧ xm_y24.cls ≠ "java/lang/invoke/VarHandle" ∧ (parseMethodDescriptor xm_y24.desc).map (fun d => d.parameters.length) = some 1 := by decide +kernel
theorem xm_nd25 : xm_y25.cls ≠ "java/lang/invoke/MethodHandle" ∧ xm_y25.cls ≠ "java/lang/invoke/VarHandle" ∧ (parseMethodDescriptor xm_y25.desc).map (fun d => d.parameters.length) = some 2 := by decide +kernel
theorem xm_nd26 : xm_y26.cls ≠ "java/lang/invoke/MethodHandle" ∧ xm_y26.cls ≠ "java/lang/invoke/VarHandle" ∧ (parseMethodDescriptor xm_y26.desc).map (fun d => d.parameters.length) = some 2 := by decide +kernel
theorem xm_nd27 : xm_y27.cls ≠ "java/lang/invoke/MethodHandle" ∧ xm_y27.cls ≠ "java/lang/invoke/VarHandle" ∧ (parseMethodDescriptor xm_y27.desc).map (fun d => d.parameters.length) = some 2 := by decide +kernel
theorem xm_nd28 : xm_y28.cls ≠ "java/lang/invoke/MethodHandle" ∧ xm_y28.cls ≠ "java/lang/invoke/VarHandle" ∧ (parseMethodDescriptor xm_y28.desc).map (fun d => d.parameters.length) = some 1 := by decide +kernel
theorem xm_nd29 : xm_y29.cls ≠ "java/lang/invoke/MethodHandle" ∧ xm_y29.cls ≠ "java/lang/invoke/VarHandle" ∧ (parseMethodDescriptor xm_y29.desc).map (fun d => d.parameters.length) = some 1 := by decide +kernel
theorem xm_nd30 : xm_y30.cls ≠ "java/lang/invoke/MethodHandle" ∧ xm_y30.cls ≠ "java/lang/invoke/VarHandle" ∧ (parseMethodDescriptor xm_y30.desc).map (fun d => d.parameters.length) = some 0 := by decide +kernel
theorem xm_nd31 : xm_y31.cls ≠ "java/lang/invoke/MethodHandle" ∧ xm_y31.cls ≠ "java/lang/invoke/VarHandle" ∧ (parseMethodDescriptor xm_y31.desc).map (fun d => d.parameters.length) = some 0 := by decide +kernel
theorem xm_nd32 : xm_y32.cls ≠ "java/lang/invoke/MethodHandle" ∧ xm_y32.cls ≠ "java/lang/invoke/VarHandle" ∧ (parseMethodDescriptor xm_y32.desc).map (fun d => d.parameters.length) = some 2 := by decide +kernel
theorem xm_nd33 : xm_y33.cls ≠ "java/lang/invoke/MethodHandle" ∧ xm_y33.cls ≠ "java/lang/invoke/VarHandle" ∧ (parseMethodDescriptor xm_y33.desc).map (fun d => d.parameters.length) = some 1 := by decide +kernel
theorem xm_nd34 : xm_y34.cls ≠ "java/lang/invoke/MethodHandle" ∧ xm_y34.cls ≠ "java/lang/invoke/VarHandle" ∧ (parseMethodDescriptor xm_y34.desc).map (fun d => d.parameters.length) = some 1 := by decide +kernel
theorem xm_nd35 : xm_y35.cls ≠ "java/lang/invoke/MethodHandle" ∧ xm_y35.cls ≠ "java/lang/invoke/VarHandle" ∧ (parseMethodDescriptor xm_y35.desc).map (fun d => d.parameters.length) = some 1 := by decide +kernel
theorem xm_nd36 : xm_y36.cls ≠ "java/lang/invoke/MethodHandle" ∧ xm_y36.cls ≠ "java/lang/invoke/VarHandle" ∧ (parseMethodDescriptor xm_y36.desc).map (fun d => d.parameters.length) = some 0 := by decide +kernel
theorem xm_nd37 : xm_y37.cls ≠ "java/lang/invoke/MethodHandle" ∧ xm_y37.cls ≠ "java/lang/invoke/VarHandle" ∧ (parseMethodDescriptor xm_y37.desc).map (fun d => d.parameters.length) = some 1 := by decide +kernel
theorem xm_nd38 : xm_y38.cls ≠ "java/lang/invoke/MethodHandle" ∧ xm_y38.cls ≠ "java/lang/invoke/VarHandle" ∧ (parseMethodDescriptor xm_y38.desc).map (fun d => d.parameters.length) = some 1 := by decide +kernel
theorem xm_nd39 : xm_y39.cls ≠ "java/lang/invoke/MethodHandle" ∧ xm_y39.cls ≠ "java/lang/invoke/VarHandle" ∧ (parseMethodDescriptor xm_y39.desc).map (fun d => d.parameters.length) = some 1 := by decide +kernel
theorem xm_nd40 : xm_y40.cls ≠ "java/lang/invoke/MethodHandle" ∧ xm_y40.cls ≠ "java/lang/invoke/VarHandle" ∧ (parseMethodDescriptor xm_y40.desc).map (fun d => d.parameters.length) = some 1 := by decide +kernel
theorem xm_nd41 : xm_y41.cls ≠ "java/lang/invoke/MethodHandle" ∧ xm_y41.cls ≠ "java/lang/invoke/VarHandle" ∧ (parseMethodDescriptor xm_y41.desc).map (fun d => d.parameters.length) = some 2 := by decide +kernel
theorem xm_nd42 : xm_y42.cls ≠ "java/lang/invoke/MethodHandle" ∧ xm_y42.cls ≠ "java/lang/invoke/VarHandle" ∧ (parseMethodDescriptor xm_y42.desc).map (fun d => d.parameters.length) = some 2 := by decide +kernel
theorem xm_nd43 : xm_y43.cls ≠ "java/lang/invoke/MethodHandle" ∧ xm_y43.cls ≠ "java/lang/invoke/VarHandle" ∧ (parseMethodDescriptor xm_y43.desc).map (fun d => d.parameters.length) = some 0 := by decide +kernel
theorem xm_nd44 : xm_y44.cls ≠ "java/lang/invoke/MethodHandle" ∧ xm_y44.cls ≠ "java/lang/invoke/VarHandle" ∧ (parseMethodDescriptor xm_y44.desc).map (fun d => d.parameters.length) = some 0 := by decide +kernel
theorem xm_nd45 : xm_y45.cls ≠ "java/lang/invoke/MethodHandle" ∧ xm_y45.cls ≠ "java/lang/invoke/VarHandle" ∧ (parseMethodDescriptor xm_y45.desc).map (fun d => d.parameters.length) = some 1 := by decide +kernel
theorem xm_nd46 : xm_y46.cls ≠ "java/lang/invoke/MethodHandle" ∧ xm_y46.cls ≠ "java/lang/invoke/VarHandle" ∧ (parseMethodDescriptor xm_y46.desc).map (fun d => d.parameters.length) = some 1 := by decide +kernel
theorem xm_nd47 : xm_y47.cls ≠ "java/lang/invoke/MethodHandle" ∧ xm_y47.cls ≠ "java/lang/invoke/VarHandle" ∧ (parseMethodDescriptor xm_y47.desc).map (fun d => d.parameters.length) = some 5 := by decide +kernel
theorem xm_nd48 : xm_y48.cls ≠ "java/lang/invoke/MethodHandle" ∧ xm_y48.cls ≠ "java/lang/invoke/VarHandle" ∧ (parseMethodDescriptor xm_y48.desc).map (fun d => d.parameters.length) = some 0 := by decide +kernel
theorem xm_nd49 : xm_y49.cls ≠ "java/lang/invoke/MethodHandle" ∧ xm_y49.cls ≠ "java/lang/invoke/VarHandle" ∧ (parseMethodDescriptor xm_y49.desc).map (fun d => d.parameters.length) = some 0 := by decide +kernel
theorem xm_nd50 : xm_y50.cls ≠ "java/lang/invoke/MethodHandle" ∧ xm_y50.cls ≠ "java/lang/invoke/VarHandle" ∧ (parseMethodDescriptor xm_y50.desc).map (fun d => d.parameters.length) = some 2 := by decide +kernel
theorem xm_nd51 : xm_y51.cls ≠ "java/lang/invoke/MethodHandle" ∧ xm_y51.cls ≠ "java/lang/invoke/VarHandle" ∧ (parseMethodDescriptor xm_y51.desc).map (fun d => d.parameters.length) = some 1 := by decide +kernel
theorem xm_nd52 : xm_y52.cls ≠ "java/lang/invoke/MethodHandle" ∧ xm_y52.cls ≠ "java/lang/invoke/VarHandle" ∧ (parseMethodDescriptor xm_y52.desc).map (fun d => d.parameters.length) = some 1 := by decide +kernel
theorem xm_nd53 : xm_y53.cls ≠ "java/lang/invoke/MethodHandle" ∧ xm_y53.cls ≠ "java/lang/invoke/VarHandle" ∧ (parseMethodDescriptor xm_y53.desc).map (fun d => d.parameters.length) = some 1 := by decide +kernel
theorem xm_nd54 : xm_y54.cls ≠ "java/lang/invoke/MethodHandle" ∧ xm_y54.cls ≠ "java/lang/invoke/VarHandle" ∧ (parseMethodDescriptor xm_y54.desc).map (fun d => d.parameters.length) = some 0 := by decide +kernel
theorem xm_nd55 : xm_y55.cls ≠ "java/lang/invoke/MethodHandle" ∧ xm_y55.cls ≠ "java/lang/invoke/VarHandle" ∧ (parseMethodDescriptor xm_y55.desc).map (fun d => d.parameters.length) = some 1 := by decide +kernel
theorem xm_nd56 : xm_y56.cls ≠ "java/lang/invoke/MethodHandle" ∧ xm_y56.cls ≠ "java/lang/invoke/VarHandle" ∧ (parseMethodDescriptor xm_y56.desc).map (fun d => d.parameters.length) = some 2 := by decide +kernel
theorem xm_nd57 : xm_y57.cls ≠ "java/lang/invoke/MethodHandle" ∧ xm_y57.cls ≠ "java/lang/invoke/VarHandle" ∧ (parseMethodDescriptor xm_y57.desc).map (fun d => d.parameters.length) = some 0 := by decide +kernel
theorem xm_nd58 : xm_y58.cls ≠ "java/lang/invoke/MethodHandle" ∧ xm_y58.cls ≠ "java/lang/invoke/VarHandle" ∧ (parseMethodDescriptor xm_y58.desc).map (fun d => d.parameters.length) = some 1 := by decide +kernel
theorem xm_nd59 : xm_y59.cls ≠ "java/lang/invoke/MethodHandle" ∧ xm_y59.cls ≠ "java/lang/invoke/VarHandle" ∧ (parseMethodDescriptor xm_y59.desc).map (fun d => d.parameters.length) = some 1 := by decide +kernel
theorem xm_nd60 : xm_y60.cls ≠ "java/lang/invoke/MethodHandle" ∧ xm_y60.cls ≠ "java/lang/invoke/VarHandle" ∧ (parseMethodDescriptor xm_y60.desc).map (fun d => d.parameters.length) = some 1 := by decide +kernel
theorem xm_nd61 : xm_y61.cls ≠ "java/lang/invoke/MethodHandle" ∧ xm_y61.cls ≠ "java/lang/invoke/VarHandle" ∧ (parseMethodDescriptor xm_y61.desc).map (fun d => d.parameters.length) = some 0 := by decide +kernel
theorem xm_nd62 : xm_y62.cls ≠ "java/lang/invoke/MethodHandle" ∧ xm_y62.cls ≠ "java/lang/invoke/VarHandle" ∧ (parseMethodDescriptor xm_y62.desc).map (fun d => d.parameters.length) = some 0 := by decide +kernel
theorem xm_nd63 : xm_y63.cls ≠ "java/lang/invoke/MethodHandle" ∧ xm_y63.cls ≠ "java/lang/invoke/VarHandle" ∧ (parseMethodDescriptor xm_y63.desc).map (fun d => d.parameters.length) = some 1 := by decide +kernel
theorem xm_nd64 : xm_y64.cls ≠ "java/lang/invoke/MethodHandle" ∧ xm_y64.cls ≠ "java/lang/invoke/VarHandle" ∧ (parseMethodDescriptor xm_y64.desc).map (fun d => d.parameters.length) = some 1 := by decide +kernel
theorem xm_nd65 : xm_y65.cls ≠ "java/lang/invoke/MethodHandle" ∧ xm_y65.cls ≠ "java/lang/invoke/VarHandle" ∧ (parseMethodDescriptor xm_y65.desc).map (fun d => d.parameters.length) = some 1 := by decide +kernel
theorem xm_nd66 : xm_y66.cls ≠ "java/lang/invoke/MethodHandle" ∧ xm_y66.cls ≠ "java/lang/invoke/VarHandle" ∧ (parseMethodDescriptor xm_y66.desc).map (fun d => d.parameters.length) = some 2 := by decide +kernel
theorem xm_nd67 : xm_y67.cls ≠ "java/lang/invoke/MethodHandle" ∧ xm_y67.cls ≠ "java/lang/invoke/VarHandle" ∧ (parseMethodDescriptor xm_y67.desc).map (fun d => d.parameters.length) = some 1 := by decide +kernel
theorem xm_nd68 : xm_y68.cls ≠ "java/lang/invoke/MethodHandle" ∧ xm_y68.cls ≠ "java/lang/invoke/VarHandle" ∧ (parseMethodDescriptor xm_y68.desc).map (fun d => d.parameters.length) = some 0 := by decide +kernel
theorem xm_nd69 : xm_y69.cls ≠ "java/lang/invoke/MethodHandle" ∧ xm_y69.cls ≠ "java/lang/invoke/VarHandle" ∧ (parseMethodDescriptor xm_y69.desc).map (fun d => d.parameters.length) = some 0 := by decide +kernel
theorem xm_nd70 : xm_y70.cls ≠ "java/lang/invoke/MethodHandle" ∧ xm_y70.cls ≠ "java/lang/invoke/VarHandle" ∧ (parseMethodDescriptor xm_y70.desc).map (fun d => d.parameters.length) = some 2 := by decide +kernel
theorem xm_nd71 : xm_y71.cls ≠ "java/lang/invoke/MethodHandle" ∧ xm_y71.cls ≠ "java/lang/invoke/VarHandle" ∧ (parseMethodDescriptor xm_y71.desc).map (fun d => d.parameters.length) = some 2 := by decide +kernel
theorem xm_nd72 : xm_y72.cls ≠ "java/lang/invoke/MethodHandle" ∧ xm_y72.cls ≠ "java/lang/invoke/VarHandle" ∧ (parseMethodDescriptor xm_y72.desc).map (fun d => d.parameters.length) = some 3 := by decide +kernel
theorem xm_nd73 : xm_y73.cls ≠ "java/lang/invoke/MethodHandle" ∧ xm_y73.cls ≠ "java/lang/invoke/VarHandle" ∧ (parseMethodDescriptor xm_y73.desc).map (fun d => d.parameters.length) = some 3 := by decide +kernel
theorem xm_nd74 : xm_y74.cls ≠ "java/lang/invoke/MethodHandle" ∧ xm_y74.cls ≠ "java/lang/invoke/VarHandle" ∧ (parseMethodDescriptor xm_y74.desc).map (fun d => d.parameters.length) = some 3 := by decide +kernel
theorem xm_nd75 : xm_y75.cls ≠ "java/lang/invoke/MethodHandle" ∧ xm_y75.cls ≠ "java/lang/invoke/VarHandle" ∧ (parseMethodDescriptor xm_y75.desc).map (fun d => d.parameters.length) = some 2 := by decide +kernel
theorem xm_nd76 : xm_y76.cls ≠ "java/lang/invoke/MethodHandle" ∧ xm_y76.cls ≠ "java/lang/invoke/VarHandle" ∧ (parseMethodDescriptor xm_y76.desc).map (fun d => d.parameters.length) = some 2 := by decide +kernel
theorem xm_nd77 : xm_y77.cls ≠ "java/lang/invoke/MethodHandle" ∧ xm_y77.cls ≠ "java/lang/invoke/VarHandle" ∧ (parseMethodDescriptor xm_y77.desc).map (fun d => d.parameters.length) = some 2 := by decide +kernel
theorem xm_nd78 : xm_y78.cls ≠ "java/lang/invoke/MethodHandle" ∧ xm_y78.cls ≠ "java/lang/invoke/VarHandle" ∧ (parseMethodDescriptor xm_y78.desc).map (fun d => d.parameters.length) = some 1 := by decide +kernel
theorem xm_nd79 : xm_y79.cls ≠ "java/lang/invoke/MethodHandle" ∧ xm_y79.cls ≠ "java/lang/invoke/VarHandle" ∧ (parseMethodDescriptor xm_y79.desc).map (fun d => d.parameters.length) = some 1 := by decide +kernel
theorem xm_nd80 : xm_y80.cls ≠ "java/lang/invoke/MethodHandle" ∧ xm_y80.cls ≠ "java/lang/invoke/VarHandle" ∧ (parseMethodDescriptor xm_y80.desc).map (fun d => d.parameters.length) = some 1 := by decide +kernel
theorem xm_nd81 : xm_y81.cls ≠ "java/lang/invoke/MethodHandle" ∧ xm_y81.cls ≠ "java/lang/invoke/VarHandle" ∧ (parseMethodDescriptor xm_y81.desc).map (fun d => d.parameters.length) = some 2 := by decide +kernel
theorem xm_nd82 : xm_y82.cls ≠ "java/lang/invoke/MethodHandle" ∧ xm_y82.cls ≠ "java/lang/invoke/VarHandle" ∧ (parseMethodDescriptor xm_y82.desc).map (fun d => d.parameters.length) = some 2 := by decide +kernel
theorem xm_nd83 : xm_y83.cls ≠ "java/lang/invoke/MethodHandle" ∧ xm_y83.cls ≠ "java/lang/invoke/VarHandle" ∧ (parseMethodDescriptor xm_y83.desc).map (fun d => d.parameters.length) = some 2 := by decide +kernel
theorem xm_nd84 : xm_y84.cls ≠ "java/lang/invoke/MethodHandle" ∧ xm_y84.cls ≠ "java/lang/invoke/VarHandle" ∧ (parseMethodDescriptor xm_y84.desc).map (fun d => d.parameters.length) = some 0 := by decide +kernel
theorem xm_nd85 : xm_y85.cls ≠ "java/lang/invoke/MethodHandle" ∧ xm_y85.cls ≠ "java/lang/invoke/VarHandle" ∧ (parseMethodDescriptor xm_y85.desc).map (fun d => d.parameters.length) = some 2 := by decide +kernel
theorem xm_nd86 : xm_y86.cls ≠ "java/lang/invoke/MethodHandle" ∧ xm_y86.cls ≠ "java/lang/invoke/VarHandle" ∧ (parseMethodDescriptor xm_y86.desc).map (fun d => d.parameters.length) = some 0 := by decide +kernel
theorem xm_nd87 : xm_y87.cls ≠ "java/lang/invoke/MethodHandle" ∧ xm_y87.cls ≠ "java/lang/invoke/VarHandle" ∧ (parseMethodDescriptor xm_y87.desc).map (fun d => d.parameters.length) = some 2 := by decide +kernel
theorem xm_nd88 : xm_y88.cls ≠ "java/lang/invoke/MethodHandle" ∧ xm_y88.cls ≠ "java/lang/invoke/VarHandle" ∧ (parseMethodDescriptor xm_y88.desc).map (fun d => d.parameters.length) = some 2 := by decide +kernel
theorem xm_nd89 : xm_y89.cls ≠ "java/lang/invoke/MethodHandle" ∧ xm_y89.cls ≠ "java/lang/invoke/VarHandle" ∧ (parseMethodDescriptor xm_y89.desc).map (fun d => d.parameters.length) = some 1 := by decide +kernel
theorem xm_nd90 : xm_y90.cls ≠ "java/lang/invoke/MethodHandle" ∧ xm_y90.cls ≠ "java/lang/invoke/VarHandle" ∧ (parseMethodDescriptor xm_y90.desc).map (fun d => d.parameters.length) = some 1 := by decide +kernel
theorem xm_nd91 : xm_y91.cls ≠ "java/lang/invoke/MethodHandle" ∧ xm_y91.cls ≠ "java/lang/invoke/VarHandle" ∧ (parseMethodDescriptor xm_y91.desc).map (fun d => d.parameters.length) = some 0 := by decide +kernel
theorem xm_nd92 : xm_y92.cls ≠ "java/lang/invoke/MethodHandle" ∧ xm_y92.cls ≠ "java/lang/invoke/VarHandle" ∧ (parseMethodDescriptor xm_y92.desc).map (fun d => d.parameters.length) = some 0 := by decide +kernel
theorem xm_nd93 : xm_y93.cls ≠ "java/lang/invoke/MethodHandle" ∧ xm_y93.cls ≠ "java/lang/invoke/VarHandle" ∧ (parseMethodDescriptor xm_y93.desc).map (fun d => d.parameters.length) = some 2 := by decide +kernel
theorem xm_nd94 : xm_y94.cls ≠ "java/lang/invoke/MethodHandle" ∧ xm_y94.cls ≠ "java/lang/invoke/VarHandle" ∧ (parseMethodDescriptor xm_y94.desc).map (fun d => d.parameters.length) = some 1 := by decide +kernel
theorem xm_nd95 : xm_y95.cls ≠ "java/lang/invoke/MethodHandle" ∧ xm_y95.cls ≠ "java/lang/invoke/VarHandle" ∧ (parseMethodDescriptor xm_y95.desc).map (fun d => d.parameters.length) = some 1 := by decide +kernel
theorem xm_nd96 : xm_y96.cls ≠ "java/lang/invoke/MethodHandle" ∧ xm_y96.cls ≠ "java/lang/invoke/VarHandle" ∧ (parseMethodDescriptor xm_y96.desc).map (fun d => d.parameters.length) = some 1 := by decide +kernel
theorem xm_nd97 : xm_y97.cls ≠ "java/lang/invoke/MethodHandle" ∧ xm_y97.cls ≠ "java/lang/invoke/VarHandle" ∧ (parseMethodDescriptor xm_y97.desc).map (fun d => d.parameters.length) = some 0 := by decide +kernel
theorem xm_nd98 : xm_y98.cls ≠ "java/lang/invoke/MethodHandle" ∧ xm_y98.cls ≠ "java/lang/invoke/VarHandle" ∧ (parseMethodDescriptor xm_y98.desc).map (fun d => d.parameters.length) = some 0 := by decide +kernel
theorem xm_nd99 : xm_y99.cls ≠ "java/lang/invoke/MethodHandle" ∧ xm_y99.cls ≠ "java/lang/invoke/VarHandle" ∧ (parseMethodDescriptor xm_y99.desc).map (fun d => d.parameters.length) = some 1 := by decide +kernel
theorem xm_nd100 : xm_y100.cls ≠ "java/lang/invoke/MethodHandle" ∧ xm_y100.cls ≠ "java/lang/invoke/VarHandle" ∧ (parseMethodDescriptor xm_y100.desc).map (fun d => d.parameters.length) = some 0 := by decide +kernel
theorem xm_nd101 : xm_y101.cls ≠ "java/lang/invoke/MethodHandle" ∧ xm_y101.cls ≠ "java/lang/invoke/VarHandle" ∧ (parseMethodDescriptor xm_y101.desc).map (fun d => d.parameters.length) = some 2 := by decide +kernel
theorem xm_nd102 : xm_y102.cls ≠ "java/lang/invoke/MethodHandle" ∧ xm_y102.cls ≠ "java/lang/invoke/VarHandle" ∧ (parseMethodDescriptor xm_y102.desc).map (fun d => d.parameters.length) = some 0 := by decide +kernel
theorem xm_nd103 : xm_y103.cls ≠ "java/lang/invoke/MethodHandle" ∧ xm_y103.cls ≠ "java/lang/invoke/VarHandle" ∧ (parseMethodDescriptor xm_y103.desc).map (fun d => d.parameters.length) = some 1 := by decide +kernel
theorem xm_nd104 : xm_y104.cls ≠ "java/lang/invoke/MethodHandle" ∧ xm_y104.cls ≠ "java/lang/invoke/VarHandle" ∧ (parseMethodDescriptor xm_y104.desc).map (fun d => d.parameters.length) = some 1 := by decide +kernel
theorem xm_nd105 : xm_y105.cls ≠ "java/lang/invoke/MethodHandle" ∧ xm_y105.cls ≠ "java/lang/invoke/VarHandle" ∧ (parseMethodDescriptor xm_y105.desc).map (fun d => d.parameters.length) = some 2 := by decide +kernel
theorem xm_nd106 : xm_y106.cls ≠ "java/lang/invoke/MethodHandle" ∧ xm_y106.cls ≠ "java/lang/invoke/VarHandle" ∧ (parseMethodDescriptor xm_y106.desc).map (fun d => d.parameters.length) = some 4 := by decide +kernel
theorem xm_nd107 : xm_y107.cls ≠ "java/lang/invoke/MethodHandle" ∧ xm_y107.cls ≠ "java/lang/invoke/VarHandle" ∧ (parseMethodDescriptor xm_y107.desc).map (fun d => d.parameters.length) = some 1 := by decide +kernel
theorem xm_nd108 : xm_y108.cls ≠ "java/lang/invoke/MethodHandle" ∧ xm_y108.cls ≠ "java/lang/invoke/VarHandle" ∧ (parseMethodDescriptor xm_y108.desc).map (fun d => d.parameters.length) = some 1 := by decide +kernel
theorem xm_nd109 : xm_y109.cls ≠ "java/lang/invoke/MethodHandle" ∧ xm_y109.cls ≠ "java/lang/invoke/VarHandle" ∧ (parseMethodDescriptor xm_y109.desc).map (fun d => d.parameters.length) = some 1 := by decide +kernel
theorem xm_nd110 : xm_y110.cls ≠ "java/lang/invoke/MethodHandle" ∧ xm_y110.cls ≠ "java/lang/invoke/VarHandle" ∧ (parseMethodDescriptor xm_y110.desc).map (fun d => d.parameters.length) = some 2 := by decide +kernel
theorem xm_nd111 : xm_y111.cls ≠ "java/lang/invoke/MethodHandle" ∧ xm_y111.cls ≠ "java/lang/invoke/VarHandle" ∧ (parseMethodDescriptor xm_y111.desc).map (fun d => d.parameters.length) = some 0 := by decide +kernel
theorem xm_nd112 : xm_y112.cls ≠ "java/lang/invoke/MethodHandle" ∧ xm_y112.cls ≠ "java/lang/invoke/VarHandle" ∧ (parseMethodDescriptor xm_y112.desc).map (fun d => d.parameters.length) = some 0 := by decide +kernel
theorem xm_nd113 : xm_y113.cls ≠ "java/lang/invoke/MethodHandle" ∧ xm_y113.cls ≠ "java/lang/invoke/VarHandle" ∧ (parseMethodDescriptor xm_y113.desc).map (fun d => d.parameters.length) = some 1 := by decide +kernel
theorem xm_nd114 : xm_y114.cls ≠ "java/lang/invoke/MethodHandle" ∧ xm_y114.cls ≠ "java/lang/invoke/VarHandle" ∧ (parseMethodDescriptor xm_y114.desc).map (fun d => d.parameters.length) = some 1 := by decide +kernel
theorem xm_nd115 : xm_y115.cls ≠ "java/lang/invoke/MethodHandle" ∧ xm_y115.cls ≠ "java/lang/invoke/VarHandle" ∧ (parseMethodDescriptor xm_y115.desc).map (fun d => d.parameters.length) = some 2 := by decide +kernel
theorem xm_nd116 : xm_y116.cls ≠ "java/lang/invoke/MethodHandle" ∧ xm_y116.cls ≠ "java/lang/invoke/VarHandle" ∧ (parseMethodDescriptor xm_y116.desc).map (fun d => d.parameters.length) = some 0 := by decide +kernel
theorem xm_nd117 : xm_y117.cls ≠ "java/lang/invoke/MethodHandle" ∧ xm_y117.cls ≠ "java/lang/invoke/VarHandle" ∧ (parseMethodDescriptor xm_y117.desc).map (fun d => d.parameters.length) = some 3 := by decide +kernel
theorem xm_nd118 : xm_y118.cls ≠ "java/lang/invoke/MethodHandle" ∧ xm_y118.cls ≠ "java/lang/invoke/VarHandle" ∧ (parseMethodDescriptor xm_y118.desc).map (fun d => d.parameters.length) = some 2 := by decide +kernel
theorem xm_nd119 : xm_y119.cls ≠ "java/lang/invoke/MethodHandle" ∧ xm_y119.cls ≠ "java/lang/invoke/VarHandle" ∧ (parseMethodDescriptor xm_y119.desc).map (fun d => d.parameters.length) = some 1 := by decide +kernel
theorem xm_nd120 : xm_y120.cls ≠ "java/lang/invoke/MethodHandle" ∧ xm_y120.cls ≠ "java/lang/invoke/VarHandle" ∧ (parseMethodDescriptor xm_y120.desc).map (fun d => d.parameters.length) = some 2 := by decide +kernel
theorem xm_nd121 : xm_y121.cls ≠ "java/lang/invoke/MethodHandle" ∧ xm_y121.cls ≠ "java/lang/invoke/VarHandle" ∧ (parseMethodDescriptor xm_y121.desc).map (fun d => d.parameters.length) = some 1 := by decide +kernel
theorem xm_nd122 : xm_y122.cls ≠ "java/lang/invoke/MethodHandle" ∧ xm_y122.cls ≠ "java/lang/invoke/VarHandle" ∧ (parseMethodDescriptor xm_y122.desc).map (fun d => d.parameters.length) = some 0 := by decide +kernel
theorem xm_nd123 : xm_y123.cls ≠ "java/lang/invoke/MethodHandle" ∧ xm_y123.cls ≠ "java/lang/invoke/VarHandle" ∧ (parseMethodDescriptor xm_y123.desc).map (fun d => d.parameters.length) = some 1 := by decide +kernel
theorem xm_nd124 : xm_y124.cls ≠ "java/lang/invoke/MethodHandle" ∧ xm_y124.cls ≠ "java/lang/invoke/VarHandle" ∧ (parseMethodDescriptor xm_y124.desc).map (fun d => d.parameters.length) = some 1 := by decide +kernel
theorem xm_nd125 : xm_y125.cls ≠ "java/lang/invoke/MethodHandle" ∧ xm_y125.cls ≠ "java/lang/invoke/VarHandle" ∧ (parseMethodDescriptor xm_y125.desc).map (fun d => d.parameters.length) = some 1 := by decide +kernel
theorem xm_nd126 : xm_y126.cls ≠ "java/lang/invoke/MethodHandle" ∧ xm_y126.cls ≠ "java/lang/invoke/VarHandle" ∧ (parseMethodDescriptor xm_y126.desc).map (fun d => d.parameters.length) = some 4 := by decide +kernel
theorem xm_nd127 : xm_y127.cls ≠ "java/lang/invoke/MethodHandle" ∧ xm_y127.cls ≠ "java/lang/invoke/VarHandle" ∧ (parseMethodDescriptor xm_y127.desc).map (fun d => d.parameters.length) = some 4 := by decide +kernel
theorem xm_nd128 : xm_y128.cls ≠ "java/lang/invoke/MethodHandle" ∧ xm_y128.cls ≠ "java/lang/invoke/VarHandle" ∧ (parseMethodDescriptor xm_y128.desc).map (fun d => d.parameters.length) = some 1 := by decide +kernel
theorem xm_nd129 : xm_y129.cls ≠ "java/lang/invoke/MethodHandle" ∧ xm_y129.cls ≠ "java/lang/invoke/VarHandle" ∧ (parseMethodDescriptor xm_y129.desc).map (fun d => d.parameters.length) = some 2 := by decide +kernel
theorem xm_nd130 : xm_y130.cls ≠ "java/lang/invoke/MethodHandle" ∧ xm_y130.cls ≠ "java/lang/invoke/VarHandle" ∧ (parseMethodDescriptor xm_y130.desc).map (fun d => d.parameters.length) = some 2 := by decide +kernel
theorem xm_nd131 : xm_y131.cls ≠ "java/lang/invoke/MethodHandle" ∧ xm_y131.cls ≠ "java/lang/invoke/VarHandle" ∧ (parseMethodDescriptor xm_y131.desc).map (fun d => d.parameters.length) = some 1 := by decide +kernel
theorem xm_nd132 : xm_y132.cls ≠ "java/lang/invoke/MethodHandle" ∧ xm_y132.cls ≠ "java/lang/invoke/VarHandle" ∧ (parseMethodDescriptor xm_y132.desc).map (fun d => d.parameters.length) = some 2 := by decide +kernel
theorem xm_nd133 : xm_y133.cls ≠ "java/lang/invoke/MethodHandle" ∧ xm_y133.cls ≠ "java/lang/invoke/VarHandle" ∧ (parseMethodDescriptor xm_y133.desc).map (fun d => d.parameters.length) = some 0 := by decide +kernel
theorem xm_nd134 : xm_y134.cls ≠ "java/lang/invoke/MethodHandle" ∧ xm_y134.cls ≠ "java/lang/invoke/VarHandle" ∧ (parseMethodDescriptor xm_y134.desc).map (fun d => d.parameters.length) = some 0 := by decide +kernel
theorem xm_nd135 : xm_y135.cls ≠ "java/lang/invoke/MethodHandle" ∧ xm_y135.cls ≠ "java/lang/invoke/VarHandle" ∧ (parseMethodDescriptor xm_y135.desc).map (fun d => d.parameters.length) = some 0 := by decide +kernel
theorem xm_nd136 : xm_y136.cls ≠ "java/lang/invoke/MethodHandle" ∧ xm_y136.cls ≠ "java/lang/invoke/VarHandle" ∧ (parseMethodDescriptor xm_y136.desc).map (fun d => d.parameters.length) = some 1 := by decide +kernel
theorem xm_nd137 : xm_y137.cls ≠ "java/lang/invoke/MethodHandle" ∧ xm_y137.cls ≠ "java/lang/invoke/VarHandle" ∧ (parseMethodDescriptor xm_y137.desc).map (fun d => d.parameters.length) = some 1 := by decide +kernel
theorem xm_nd138 : xm_y138.cls ≠ "java/lang/invoke/MethodHandle" ∧ xm_y138.cls ≠ "java/lang/invoke/VarHandle" ∧ (parseMethodDescriptor xm_y138.desc).map (fun d => d.parameters.length) = some 1 := by decide +kernel
theorem xm_nd139 : xm_y139.cls ≠ "java/lang/invoke/MethodHandle" ∧ xm_y139.cls ≠ "java/lang/invoke/VarHandle" ∧ (parseMethodDescriptor xm_y139.desc).map (fun d => d.parameters.length) = some 1 := by decide +kernel
theorem xm_nd140 : xm_y140.cls ≠ "java/lang/invoke/MethodHandle" ∧ xm_y140.cls ≠ "java/lang/invoke/VarHandle" ∧ (parseMethodDescriptor xm_y140.desc).map (fun d => d.parameters.length) = some 0 := by decide +kernel
theorem xm_nd141 : xm_y141.cls ≠ "java/lang/invoke/MethodHandle" ∧ xm_y141.cls ≠ "java/lang/invoke/VarHandle" ∧ (parseMethodDescriptor xm_y141.desc).map (fun d => d.parameters.length) = some 0 := by decide +kernel
theorem xm_nd142 : xm_y142.cls ≠ "java/lang/invoke/MethodHandle" ∧ xm_y142.cls ≠ "java/lang/invoke/VarHandle" ∧ (parseMethodDescriptor xm_y142.desc).map (fun d => d.parameters.length) = some 1 := by decide +kernel
theorem xm_nd143 : xm_y143.cls ≠ "java/lang/invoke/MethodHandle" ∧ xm_y143.cls ≠ "java/lang/invoke/VarHandle" ∧ (parseMethodDescriptor xm_y143.desc).map (fun d => d.parameters.length) = some 1 := by decide +kernel
theorem xm_nd144 : xm_y144.cls ≠ "java/lang/invoke/MethodHandle" ∧ xm_y144.cls ≠ "java/lang/invoke/VarHandle" ∧ (parseMethodDescriptor xm_y144.desc).map (fun d => d.parameters.length) = some 1 := by decide +kernel
theorem xm_nd145 : xm_y145.cls ≠ "java/lang/invoke/MethodHandle" ∧ xm_y145.cls ≠ "java/lang/invoke/VarHandle" ∧ (parseMethodDescriptor xm_y145.desc).map (fun d => d.parameters.length) = some 1 := by decide +kernel
theorem xm_nd146 : xm_y146.cls ≠ "java/lang/invoke/MethodHandle" ∧ xm_y146.cls ≠ "java/lang/invoke/VarHandle" ∧ (parseMethodDescriptor xm_y146.desc).map (fun d => d.parameters.length) = some 2 := by decide +kernel
theorem xm_nd147 : xm_y147.cls ≠ "java/lang/invoke/MethodHandle" ∧ xm_y147.cls ≠ "java/lang/invoke/VarHandle" ∧ (parseMethodDescriptor xm_y147.desc).map (fun d => d.parameters.length) = some 0 := by decide +kernel
theorem xm_nd148 : xm_y148.cls ≠ "java/lang/invoke/MethodHandle" ∧ xm_y148.cls ≠ "java/lang/invoke/VarHandle" ∧ (parseMethodDescriptor xm_y148.desc).map (fun d => d.parameters.length) = some 0 := by decide +kernel
theorem xm_nd149 : xm_y149.cls ≠ "java/lang/invoke/MethodHandle" ∧ xm_y149.cls ≠ "java/lang/invoke/VarHandle" ∧ (parseMethodDescriptor xm_y149.desc).map (fun d => d.parameters.length) = some 1 := by decide +kernel
theorem xm_nd150 : xm_y150.cls ≠ "java/lang/invoke/MethodHandle" ∧ xm_y150.cls ≠ "java/lang/invoke/VarHandle" ∧ (parseMethodDescriptor xm_y150.desc).map (fun d => d.parameters.length) = some 1 := by decide +kernel
theorem xm_nd151 : xm_y151.cls ≠ "java/lang/invoke/MethodHandle" ∧ xm_y151.cls ≠ "java/lang/invoke/VarHandle" ∧ (parseMethodDescriptor xm_y151.desc).map (fun d => d.parameters.length) = some 2 := by decide +kernel
theorem xm_nd152 : xm_y152.cls ≠ "java/lang/invoke/MethodHandle" ∧ xm_y152.cls ≠ "java/lang/invoke/VarHandle" ∧ (parseMethodDescriptor xm_y152.desc).map (fun d => d.parameters.length) = some 1 := by decide +kernel
theorem xm_nd153 : xm_y153.cls ≠ "java/lang/invoke/MethodHandle" ∧ xm_y153.cls ≠ "java/lang/invoke/VarHandle" ∧ (parseMethodDescriptor xm_y153.desc).map (fun d => d.parameters.length) = some 2 := by decide +kernel
theorem xm_nd154 : xm_y154.cls ≠ "java/lang/invoke/MethodHandle" ∧ xm_y154.cls ≠ "java/lang/invoke/VarHandle" ∧ (parseMethodDescriptor xm_y154.desc).map (fun d => d.parameters.length) = some 0 := by decide +kernel
theorem xm_nd155 : xm_y155.cls ≠ "java/lang/invoke/MethodHandle" ∧ xm_y155.cls ≠ "java/lang/invoke/VarHandle" ∧ (parseMethodDescriptor xm_y155.desc).map (fun d => d.parameters.length) = some 0 := by decide +kernel
theorem xm_nd156 : xm_y156.cls ≠ "java/lang/invoke/MethodHandle" ∧ xm_y156.cls ≠ "java/lang/invoke/VarHandle" ∧ (parseMethodDescriptor xm_y156.desc).map (fun d => d.parameters.length) = some 0 := by decide +kernel
theorem xm_nd157 : xm_y157.cls ≠ "java/lang/invoke/MethodHandle" ∧ xm_y157.cls ≠ "java/lang/invoke/VarHandle" ∧ (parseMethodDescriptor xm_y157.desc).map (fun d => d.parameters.length) = some 0 := by decide +kernel
theorem xm_nd158 : xm_y158.cls ≠ "java/lang/invoke/MethodHandle" ∧ xm_y158.cls ≠ "java/lang/invoke/VarHandle" ∧ (parseMethodDescriptor xm_y158.desc).map (fun d => d.parameters.length) = some 1 := by decide +kernel
theorem xm_nd159 : xm_y159.cls ≠ "java/lang/invoke/MethodHandle" ∧ xm_y159.cls ≠ "java/lang/invoke/VarHandle" ∧ (parseMethodDescriptor xm_y159.desc).map (fun d => d.parameters.length) = some 0 := by decide +kernel
theorem xm_nd160 : xm_y160.cls ≠ "java/lang/invoke/MethodHandle" ∧ xm_y160.cls ≠ "java/lang/invoke/VarHandle" ∧ (parseMethodDescriptor xm_y160.desc).map (fun d => d.parameters.length) = some 0 := by decide +kernel
theorem xm_nd161 : xm_y161.cls ≠ "java/lang/invoke/MethodHandle" ∧ xm_y161.cls ≠ "java/lang/invoke/VarHandle" ∧ (parseMethodDescriptor xm_y161.desc).map (fun d => d.parameters.length) = some 0 := by decide +kernel
theorem xm_nd162 : xm_y162.cls ≠ "java/lang/invoke/MethodHandle" ∧ xm_y162.cls ≠ "java/lang/invoke/VarHandle" ∧ (parseMethodDescriptor xm_y162.desc).map (fun d => d.parameters.length) = some 0 := by decide +kernel
theorem xm_nd163 : xm_y163.cls ≠ "java/lang/invoke/MethodHandle" ∧ xm_y163.cls ≠ "java/lang/invoke/VarHandle" ∧ (parseMethodDescriptor xm_y163.desc).map (fun d => d.parameters.length) = some 0 := by decide +kernel
theorem xm_nd164 : xm_y164.cls ≠ "java/lang/invoke/MethodHandle" ∧ xm_y164.cls ≠ "java/lang/invoke/VarHandle" ∧ (parseMethodDescriptor xm_y164.desc).map (fun d => d.parameters.length) = some 2 := by decide +kernel
theorem xm_nd165 : xm_y165.cls ≠ "java/lang/invoke/MethodHandle" ∧ xm_y165.cls ≠ "java/lang/invoke/VarHandle" ∧ (parseMethodDescriptor xm_y165.desc).map (fun d => d.parameters.length) = some 2 := by decide +kernel
theorem xm_nd166 : xm_y166.cls ≠ "java/lang/invoke/MethodHandle" ∧ xm_y166.cls ≠ "java/lang/invoke/VarHandle" ∧ (parseMethodDescriptor xm_y166.desc).map (fun d => d.parameters.length) = some 3 := by decide +kernel
theorem xm_nd167 : xm_y167.cls ≠ "java/lang/invoke/MethodHandle" ∧ xm_y167.cls ≠ "java/lang/invoke/VarHandle" ∧ (parseMethodDescriptor xm_y167.desc).map (fun d => d.parameters.length) = some 3 := by decide +kernel
theorem xm_nd168 : xm_y168.cls ≠ "java/lang/invoke/MethodHandle" ∧ xm_y168.cls ≠ "java/lang/invoke/VarHandle" ∧ (parseMethodDescriptor xm_y168.desc).map (fun d => d.parameters.length) = some 4 := by decide +kernel
theorem xm_nd169 : xm_y169.cls ≠ "java/lang/invoke/MethodHandle" ∧ xm_y169.cls ≠ "java/lang/invoke/VarHandle" ∧ (parseMethodDescriptor xm_y169.desc).map (fun d => d.parameters.length) = some 3 := by decide +kernel
theorem xm_nd170 : xm_y170.cls ≠ "java/lang/invoke/MethodHandle" ∧ xm_y170.cls ≠ "java/lang/invoke/VarHandle" ∧ (parseMethodDescriptor xm_y170.desc).map (fun d => d.parameters.length) = some 2 := by decide +kernel
theorem xm_nd171 : xm_y171.cls ≠ "java/lang/invoke/MethodHandle" ∧ xm_y171.cls ≠ "java/lang/invoke/VarHandle" ∧ (parseMethodDescriptor xm_y171.desc).map (fun d => d.parameters.length) = some 3 := by decide +kernel
theorem xm_nd172 : xm_y172.cls ≠ "java/lang/invoke/MethodHandle" ∧ xm_y172.cls ≠ "java/lang/invoke/VarHandle" ∧ (parseMethodDescriptor xm_y172.desc).map (fun d => d.parameters.length) = some 3 := by decide +kernel
theorem xm_nd173 : xm_y173.cls ≠ "java/lang/invoke/MethodHandle" ∧ xm_y173.cls ≠ "java/lang/invoke/VarHandle" ∧ (parseMethodDescriptor xm_y173.desc).map (fun d => d.parameters.length) = some 3 := by decide +kernel
theorem xm_nd174 : xm_y174.cls ≠ "java/lang/invoke/MethodHandle" ∧ xm_y174.cls ≠ "java/lang/invoke/VarHandle" ∧ (parseMethodDescriptor xm_y174.desc).map (fun d => d.parameters.length) = some 3 := by decide +kernel
theorem xm_nd175 : xm_y175.cls ≠ "java/lang/invoke/MethodHandle" ∧ xm_y175.cls ≠ "java/lang/invoke/VarHandle" ∧ (parseMethodDescriptor xm_y175.desc).map (fun d => d.parameters.length) = some 4 := by decide +kernel
theorem xm_nd176 : xm_y176.cls ≠ "java/lang/invoke/MethodHandle" ∧ xm_y176.cls ≠ "java/lang/invoke/VarHandle" ∧ (parseMethodDescriptor xm_y176.desc).map (fun d => d.parameters.length) = some 5 := by decide +kernel
theorem xm_nd177 : xm_y177.cls ≠ "java/lang/invoke/MethodHandle" ∧ xm_y177.cls ≠ "java/lang/invoke/VarHandle" ∧ (parseMethodDescriptor xm_y177.desc).map (fun d => d.parameters.length) = some 5 := by decide +kernel
theorem xm_nd178 : xm_y178.cls ≠ "java/lang/invoke/MethodHandle" ∧ xm_y178.cls ≠ "java/lang/invoke/VarHandle" ∧ (parseMethodDescriptor xm_y178.desc).map (fun d => d.parameters.length) = some 5 := by decide +kernel
theorem xm_nd179 : xm_y179.cls ≠ "java/lang/invoke/MethodHandle" ∧ xm_y179.cls ≠ "java/lang/invoke/VarHandle" ∧ (parseMethodDescriptor xm_y179.desc).map (fun d => d.parameters.length) = some 4 := by decide +kernel
theorem xm_nd180 : xm_y180.cls ≠ "java/lang/invoke/MethodHandle" ∧ xm_y180.cls ≠ "java/lang/invoke/VarHandle" ∧ (parseMethodDescriptor xm_y180.desc).map (fun d => d.parameters.length) = some 4 := by decide +kernel
theorem xm_nd181 : xm_y181.cls ≠ "java/lang/invoke/MethodHandle" ∧ xm_y181.cls ≠ "java/lang/invoke/VarHandle" ∧ (parseMethodDescriptor xm_y181.desc).map (fun d => d.parameters.length) = some 3 := by decide +kernel
theorem xm_nd182 : xm_y182.cls ≠ "java/lang/invoke/MethodHandle" ∧ xm_y182.cls ≠ "java/lang/invoke/VarHandle" ∧ (parseMethodDescriptor xm_y182.desc).map (fun d => d.parameters.length) = some 4 := by decide +kernel
theorem xm_nd183 : xm_y183.cls ≠ "java/lang/invoke/MethodHandle" ∧ xm_y183.cls ≠ "java/lang/invoke/VarHandle" ∧ (parseMethodDescriptor xm_y183.desc).map (fun d => d.parameters.length) = some 4 := by decide +kernel
theorem xm_nd184 : xm_y184.cls ≠ "java/lang/invoke/MethodHandle" ∧ xm_y184.cls ≠ "java/lang/invoke/VarHandle" ∧ (parseMethodDescriptor xm_y184.desc).map (fun d => d.parameters.length) = some 4 := by decide +kernel
theorem xm_nd185 : xm_y185.cls ≠ "java/lang/invoke/MethodHandle" ∧ xm_y185.cls ≠ "java/lang/invoke/VarHandle" ∧ (parseMethodDescriptor xm_y185.desc).map (fun d => d.parameters.length) = some 3 := by decide +kernel
theorem xs_46_1 : xr_tsw 1 69 84 #[89, 91, 91, 91, 79, 91, 91, 85, 87, 91, 91, 91, 91, 83, 91, 81] [(69, 90), (70, 92), (71, 92), (72, 92), (73, 80), (74, 92), (75, 92), (76, 86), (77, 88), (78, 92), (79, 92), (80, 92), (81, 92), (82, 84), (83, 92), (84, 82)] 92 := xs_of (by decide) (by decide)
theorem xs_60_6 : xr_tsw 6 0 6 #[42, 55, 116, 192, 192, 135, 183] [(0, 48), (1, 61), (2, 122), (3, 198), (4, 198), (5, 141), (6, 189)] 198 := xs_of (by decide) (by decide)
theorem xs_167_6 : xr_tsw 6 0 6 #[42, 55, 66, 105, 105, 85, 96] [(0, 48), (1, 61), (2, 72), (3, 111), (4, 111), (5, 91), (6, 102)] 111 := xs_of (by decide) (by decide)
theorem xs_186_39 : xr_tsw 39 0 19 #[93, 181, 237, 293, 306, 319, 332, 345, 401, 469, 549, 629, 709, 777, 845, 901, 968, 1043, 1056, 1124] [(0, 132), (1, 220), (2, 276), (3, 332), (4, 345), (5, 358), (6, 371), (7, 384), (8, 440), (9, 508), (10, 588), (11, 668), (12, 748), (13, 816), (14, 884), (15, 940), (16, 1007), (17, 1082), (18, 1095), (19, 1163)] 1219 := xs_of (by decide) (by decide)
