section S8
variable {l : Launch} {D : va_G} {tc : Nat → ClassId} {ξ : Nat → Nat} {xs : Nat → Int32} {ρ : Nat → Int} {f : sF}
variable {mi pc npc : Nat} {lo : sL} {st : List sV} {h : List sE} {iv : sI} {c n : Nat} {k : sZ → Bool}
theorem v_ldcS (hih : s_All l D tc ξ xs ρ f) (hm : mi < s_M) {ix : Nat} (hw : s_own mi = "TaperhallModel" ∧ ix = 361) (hd : decode (s_by mi) pc = .ok (.ldc_w ix, 3)) (hn : npc = pc + 3) (hh : f mi npc lo ((4, 0, 2) :: st) h iv c n k = true) : s_Snd l D tc ξ xs ρ mi pc lo st h iv c n k := by
  intro p e R s m args below meth cc A α α0 b0 H locs ls X hin hE hA hP hD hS hl hb0 hag
  subst hn
  obtain ⟨w1, rfl⟩ := hw
  have hown := X.2.2.2.2.2.1
  rw [w1] at hown
  have hZ := hE.1.2.2.2.2.1
  intro T hT X9
  obtain ⟨t, a1, b1⟩ := hih mi _ lo ((4, 0, 2) :: st) h iv c n k hm hh X hin hE hA hP hD hS hl hb0 hag T hT X9
  exact ⟨t, X9.ldcStringW X.1 hown (text := "fgbe") (a := ξ 2) hZ.1 hZ.2 (g := F0 m pc ls (st.map (s_v ρ α ξ))) rfl (by rw [X.2.1]; exact hd) t a1, b1⟩
end S8
