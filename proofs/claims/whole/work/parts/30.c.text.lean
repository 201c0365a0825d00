section
variable {s : State} {args : Array Value}
theorem wh_txt (hgv : (Jvm.Cond.and given_1 narrow_1).before args s = true) {A : Nat → Prop} (hA : ∀ a : Nat, a < s.heap.size → ¬ A a) :
    ∃ (sa : Nat) (adV : Nat → Nat), vk_S 1 [6] [[73, 84, 82, 76, 77, 69]] (fun _ => sa) adV A s s.heap ∧ (Term.string "ExchangeText$SchemaReader" 57).eval args s none [] s = some (.ref sa) := by
  have hs := flat_of_before _ hgv
  obtain ⟨adK, adV, h, he⟩ := vk_Sof (args := args) (s := s) (N := 1) (tm := fun _ => Term.string "ExchangeText$SchemaReader" 57) (len := [6]) (byt := [[73, 84, 82, 76, 77, 69]]) (A := A)
    (fun i hi => by obtain rfl : i = 0 := by omega
                    decide)
    (fun i hi => hs _ (by decide +kernel)) (fun i hi => hs _ (by decide +kernel)) (fun i hi => hs _ (by decide +kernel))
    (fun i hi => by obtain rfl : i = 0 := by omega
                    exact hs _ (by decide +kernel))
    (fun i hi j hj => by
      obtain rfl : i = 0 := by omega
      have hj : j < 6 := hj
      have : j = 0 ∨ j = 1 ∨ j = 2 ∨ j = 3 ∨ j = 4 ∨ j = 5 := by omega
      rcases this with rfl | rfl | rfl | rfl | rfl | rfl
      · exact hs _ (by decide +kernel)
      · exact hs _ (by decide +kernel)
      · exact hs _ (by decide +kernel)
      · exact hs _ (by decide +kernel)
      · exact hs _ (by decide +kernel)
      · exact hs _ (by decide +kernel))
    (fun i j hi hj hne => absurd (show i = j by omega) hne) hA
  refine ⟨adK 0, adV, ⟨fun i hi => ?_, fun i j hi hj _ => by omega⟩, he 0 (by omega)⟩
  obtain rfl : i = 0 := by omega
  exact h.1 0 hi
theorem wh_one {own : String} {k : Nat} {tx : String} (h1 : (Cond.stringRef own k tx).before args s = true) (h2 : (Cond.exactly (Term.string own k) "java/lang/String").before args s = true) : ∃ sa : Nat, vk_R own k tx sa s := by
  obtain ⟨a, c, cA, kA, q1, -⟩ := Cond.exactly_spec (args := args) (first := s) (o := none) (s := s) (idx := []) (t := Term.string own k) (cls := "java/lang/String") h2
  exact ⟨a, vk_R.of h1 q1⟩
theorem wh_texts (hts : ∀ w ∈ lw_tbl, w.before args s = true) (hgv : (Jvm.Cond.and given_1 narrow_1).before args s = true) : ∀ q ∈ xm_st, ∃ sa : Nat, vk_R q.1 q.2.1 q.2.2 sa s := by
  have hs := flat_of_before _ hgv
  intro q hq
  simp only [xm_st, List.mem_cons, List.not_mem_nil, or_false] at hq
  rcases hq with rfl | rfl | rfl | rfl | rfl
  · exact wh_one (hts _ (by decide +kernel)) (hs _ (by decide +kernel))
  · exact wh_one (hts _ (by decide +kernel)) (hs _ (by decide +kernel))
  · exact wh_one (hts _ (by decide +kernel)) (hs _ (by decide +kernel))
  · exact wh_one (hts _ (by decide +kernel)) (hs _ (by decide +kernel))
  · exact wh_one (hts _ (by decide +kernel)) (hs _ (by decide +kernel))
theorem wh_cmp (hts : ∀ w ∈ lw_tbl, w.before args s = true) (hgv : (Jvm.Cond.and given_1 narrow_1).before args s = true) {A : Nat → Prop} (hA : ∀ a : Nat, a < s.heap.size → ¬ A a) : va_Z "java/lang/String" "COMPACT_STRINGS" "Z" (.int 1) A s s.heap := by
  have hs := flat_of_before _ hgv
  exact va_Zof (hts _ (by decide +kernel)) (hts _ (by decide +kernel)) (va_eqt (hs _ (by decide +kernel))) hA
theorem wh_nc (hgv : (Jvm.Cond.and given_1 narrow_1).before args s = true) : ∀ q ∈ xm_nc, va_Nc q.1 q.2 s := by
  have hs := flat_of_before _ hgv
  intro q hq
  simp only [xm_nc, List.mem_cons, List.not_mem_nil, or_false] at hq
  subst hq
  exact va_Nc.of (hs _ (by decide +kernel))
end
