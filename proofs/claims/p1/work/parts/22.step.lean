section S13
variable {l : Launch} {D : va_G} {tc : Nat → ClassId} {ξ : Nat → Nat} {xs : Nat → Int32} {ρ : Nat → Int} {f : sF}
variable {mi pc npc : Nat} {lo : sL} {st : List sV} {h : List sE} {iv : sI} {c n : Nat} {k : sZ → Bool}
theorem s_snd_ins (hls : l.stackTraces = false) (hih : s_All l D tc ξ xs ρ f) (hρ : s_ρ ρ xs) (hm : mi < s_M) {ins : Instr} {info : List Nat} (hd : decode (s_by mi) pc = .ok (ins, s_ln (pc, ins, npc, info))) (hn : npc = pc + s_ln (pc, ins, npc, info)) (hlk : s_lk mi (pc, ins, npc, info) = true) (hh : s_ins s_P f mi pc lo st h iv c n k ins npc info = true) : s_Snd l D tc ξ xs ρ mi pc lo st h iv c n k := by
  intro p e R s m args below meth cc A α α0 b0 H locs ls X hin hE hA hP hD hS hl hb0 hag
  cases ins with
  | iconst v => exact v_iconst hih hρ hm hd hn hh X hin hE hA hP hD hS hl hb0 hag
  | bipush v => exact v_bipush hih hρ hm hd hn hh (of_decide_eq_true hlk) X hin hE hA hP hD hS hl hb0 hag
  | sipush v => exact v_sipush hih hρ hm hd hn hh (of_decide_eq_true hlk) X hin hE hA hP hD hS hl hb0 hag
  | lconst v => exact v_lconst hih hρ hm hd hn hh X hin hE hA hP hD hS hl hb0 hag
  | fconst v =>
    have : v = 0 := Fin.ext (Nat.eq_of_beq_eq_true hlk)
    subst this
    exact v_fconst hih hρ hm hd hn hh X hin hE hA hP hD hS hl hb0 hag
  | dconst v =>
    have : v = 0 := Fin.ext (Nat.eq_of_beq_eq_true hlk)
    subst this
    exact v_dconst hih hρ hm hd hn hh X hin hE hA hP hD hS hl hb0 hag
  | aconst_null => exact v_null hih hρ hm hd hn hh X hin hE hA hP hD hS hl hb0 hag
  | ldc_w ix =>
    by_cases hq : ∃ r, info = 2 :: r
    · obtain ⟨r, rfl⟩ := hq
      exact v_ldcS hih hm (of_decide_eq_true hlk) hd hn hh X hin hE hA hP hD hS hl hb0 hag
    · have h1 : s_gat (s_nth info 2) (.constant (s_own mi) ix (Int32.ofInt (s_int (info.take 2)))) = true := by
        unfold s_lk at hlk
        dsimp only at hlk
        split at hlk
        · next r => exact absurd ⟨r, rfl⟩ hq
        · exact hlk
      have h2 : f mi npc lo ((0, s_int (info.take 2), 0) :: st) h iv c n k = true := by
        unfold s_ins at hh
        dsimp only at hh
        split at hh
        · next r => exact absurd ⟨r, rfl⟩ hq
        · exact hh
      exact v_ldcw hih hρ hm hd hn h2 (s_gat_v h1) X hin hE hA hP hD hS hl hb0 hag
  | ldc ix => exact v_ldc hih hρ hm hd hn hh (s_gat_v hlk) X hin hE hA hP hD hS hl hb0 hag
  | ldc2_w ix => exact v_ldc2 hih hρ hm hd hn hh (s_gat_v hlk) X hin hE hA hP hD hS hl hb0 hag
  | iload i => exact v_iload hih hρ hm hd hn hh X hin hE hA hP hD hS hl hb0 hag
  | iload_n i => exact v_iload_n hih hρ hm hd hn hh X hin hE hA hP hD hS hl hb0 hag
  | lload i => exact v_lload hih hρ hm hd hn hh X hin hE hA hP hD hS hl hb0 hag
  | lload_n i => exact v_lload_n hih hρ hm hd hn hh X hin hE hA hP hD hS hl hb0 hag
  | aload i => exact v_aload hih hρ hm hd hn hh X hin hE hA hP hD hS hl hb0 hag
  | aload_n i => exact v_aload_n hih hρ hm hd hn hh X hin hE hA hP hD hS hl hb0 hag
  | istore i => exact v_istore hih hρ hm hd hn hh X hin hE hA hP hD hS hl hb0 hag
  | istore_n i => exact v_istore_n hih hρ hm hd hn hh X hin hE hA hP hD hS hl hb0 hag
  | astore i => exact v_astore hih hρ hm hd hn hh X hin hE hA hP hD hS hl hb0 hag
  | astore_n i => exact v_astore_n hih hρ hm hd hn hh X hin hE hA hP hD hS hl hb0 hag
  | fstore i => exact v_fstore hih hρ hm hd hn hh X hin hE hA hP hD hS hl hb0 hag
  | lstore i => exact v_lstore hih hρ hm hd hn hh X hin hE hA hP hD hS hl hb0 hag
  | lstore_n i => exact v_lstore_n hih hρ hm hd hn hh X hin hE hA hP hD hS hl hb0 hag
  | dstore i => exact v_dstore hih hρ hm hd hn hh X hin hE hA hP hD hS hl hb0 hag
  | iinc i d => exact v_iinc hih hρ hm hd hn hh X hin hE hA hP hD hS hl hb0 hag
  | dup => exact v_dup hih hρ hm hd hn hh X hin hE hA hP hD hS hl hb0 hag
  | pop => exact v_pop hih hρ hm hd hn hh X hin hE hA hP hD hS hl hb0 hag
  | dup_x1 => exact v_dup_x1 hih hρ hm hd hn hh X hin hE hA hP hD hS hl hb0 hag
  | iadd => exact v_iadd hih hρ hm hd hn hh X hin hE hA hP hD hS hl hb0 hag
  | isub => exact v_isub hih hρ hm hd hn hh X hin hE hA hP hD hS hl hb0 hag
  | ladd => exact v_ladd hih hρ hm hd hn hh X hin hE hA hP hD hS hl hb0 hag
  | lmul => exact v_lmul hih hρ hm hd hn hh X hin hE hA hP hD hS hl hb0 hag
  | i2l => exact v_i2l hih hρ hm hd hn hh X hin hE hA hP hD hS hl hb0 hag
  | l2i => exact v_l2i hih hρ hm hd hn hh X hin hE hA hP hD hS hl hb0 hag
  | i2c => exact v_i2c hih hρ hm hd hn hh X hin hE hA hP hD hS hl hb0 hag
  | i2b => exact v_i2b hih hρ hm hd hn hh X hin hE hA hP hD hS hl hb0 hag
  | iushr => exact v_ush hih hρ hm hd hn hh X hin hE hA hP hD hS hl hb0 hag
  | ishr => exact v_shr hih hρ hm hd hn hh X hin hE hA hP hD hS hl hb0 hag
  | iand => exact v_and hih hρ hm hd hn hh X hin hE hA hP hD hS hl hb0 hag
  | lcmp => exact v_lcm hih hρ hm hd hn hh X hin hE hA hP hD hS hl hb0 hag
  | ifCond o off => exact v_ifc hih hρ hm hd hn (of_decide_eq_true hlk) hh X hin hE hA hP hD hS hl hb0 hag
  | if_icmp o off => exact v_icmp hih hρ hm hd hn (of_decide_eq_true hlk) hh X hin hE hA hP hD hS hl hb0 hag
  | goto off => exact v_goto hih hρ hm hd hn hh (of_decide_eq_true hlk) X hin hE hA hP hD hS hl hb0 hag
  | tableswitch d lw hw offs =>
    have hlk : (s_off (pc, Instr.tableswitch d lw hw offs, npc, info) d && (decide (hw - lw + 1 = (offs.size : Int)) && decide (offs.toList.map (fun o => (pc : Int) + o) = info.tail.map (fun t : Nat => (t : Int))))) = true := hlk
    rw [Bool.and_eq_true, Bool.and_eq_true] at hlk
    exact v_tab hih hρ hm hd (of_decide_eq_true hlk.1) (of_decide_eq_true hlk.2.1) (of_decide_eq_true hlk.2.2) hh X hin hE hA hP hD hS hl hb0 hag
  | ifnull off => exact v_ifnull hih hρ hm hd hn (of_decide_eq_true hlk) hh X hin hE hA hP hD hS hl hb0 hag
  | ifnonnull off => exact v_ifnonnull hih hρ hm hd hn (of_decide_eq_true hlk) hh X hin hE hA hP hD hS hl hb0 hag
  | if_acmp o off =>
    cases o with
    | eq => exact v_acmp_eq hih hρ hm hd (of_decide_eq_true hlk) hh X hin hE hA hP hD hS hl hb0 hag
    | ne =>
      have hn : npc = pc + 3 := hn
      subst hn
      exact v_acmp_ne hih hρ hm hd (of_decide_eq_true hlk) hh X hin hE hA hP hD hS hl hb0 hag
  | getfield ix =>
    refine v_gf hih hρ hm hd hn (fun q => ?_) (fun q => ?_) hh X hin hE hA hP hD hS hl hb0 hag
    · unfold s_lk at hlk
      dsimp only at hlk
      rw [q] at hlk
      exact hlk
    · obtain ⟨z, hz⟩ := Nat.exists_eq_succ_of_ne_zero q
      unfold s_lk at hlk
      dsimp only at hlk
      rw [hz] at hlk
      exact hlk
  | putfield ix => exact v_pf hih hρ hm hd hn hlk hh X hin hE hA hP hD hS hl hb0 hag
  | getstatic ix =>
    unfold s_lk at hlk
    unfold s_ins at hh
    dsimp only at hlk hh
    generalize hq : s_nth info 0 = q at hh hlk
    match q, hh, hlk with
    | 1, hh, hlk => exact v_gs1 hih hρ hm (s_gat_v hlk) hd hn hh X hin hE hA hP hD hS hl hb0 hag
    | 2, hh, hlk => exact v_gs2 hih hρ hm (s_gat_v hlk) hd hn hh X hin hE hA hP hD hS hl hb0 hag
    | 0, hh, _ => exact absurd hh Bool.false_ne_true
    | _ + 3, hh, _ => exact absurd hh Bool.false_ne_true
  | arraylength => exact v_len hih hρ hm hd hn hh X hin hE hA hP hD hS hl hb0 hag
  | iaload => exact v_ial hih hρ hm hd hn hh X hin hE hA hP hD hS hl hb0 hag
  | baload => exact v_bal hih hρ hm hd hn hh X hin hE hA hP hD hS hl hb0 hag
  | laload => exact v_lal hih hρ hm hd hn hh X hin hE hA hP hD hS hl hb0 hag
  | lastore => exact v_last hih hρ hm hd hn hh X hin hE hA hP hD hS hl hb0 hag
  | castore => exact v_cast hih hρ hm hd hn hh X hin hE hA hP hD hS hl hb0 hag
  | bastore => exact v_bast hih hρ hm hd hn hh X hin hE hA hP hD hS hl hb0 hag
  | aastore => exact v_aas hih hρ hm hd hn hh X hin hE hA hP hD hS hl hb0 hag
  | newarray a =>
    have g := s_pre_v (ws := [.arrayClass (Op.newarray.typeOf a)]) hlk _ (List.mem_singleton.mpr rfl)
    cases a with
    | int => exact v_newa0 hih hρ hm g hd hn hh X hin hE hA hP hD hS hl hb0 hag
    | char => exact v_newa1 hih hρ hm g hd hn hh X hin hE hA hP hD hS hl hb0 hag
    | byte => exact v_newa2 hih hρ hm g hd hn hh X hin hE hA hP hD hS hl hb0 hag
    | boolean => exact v_newa3 hih hρ hm g hd hn hh X hin hE hA hP hD hS hl hb0 hag
    | long => exact v_newa4 hih hρ hm g hd hn hh X hin hE hA hP hD hS hl hb0 hag
    | double => exact v_newa5 hih hρ hm g hd hn hh X hin hE hA hP hD hS hl hb0 hag
    | _ => exact absurd hh Bool.false_ne_true
  | anewarray ix => exact v_newq hih hρ hm (s_gat_v hlk) hd hn hh X hin hE hA hP hD hS hl hb0 hag
  | new ix =>
    unfold s_lk at hlk
    unfold s_ins at hh
    dsimp only at hlk hh
    generalize hq : s_nth info 0 = q at hh hlk
    match q, hh, hlk with
    | 0, hh, hlk =>
      have hlk : (match vwCl[s_nth info 1]? with
        | some r => s_cus.any (Nat.beq (s_nth info 1)) && s_gat (s_nth info 2) (.classLink (s_own mi) ix r.1) && s_pre [.instantiable r.1 r.2.2, .initialized r.1] (info.drop 3)
        | none => false) = true := hlk
      split at hlk
      · next r hr =>
        rw [Bool.and_eq_true, Bool.and_eq_true] at hlk
        have g := s_pre_v hlk.2
        exact v_newobj (wi := s_nth info 2) hih hρ hm hr (s_any_v hlk.1.1) (s_gat_v hlk.1.2) (g _ (by simp)) (g _ (by simp)) hd hn hh X hin hE hA hP hD hS hl hb0 hag
      · cases hlk
    | _ + 1, hh, hlk => exact v_thr hlk hd hh X hin hE hA hP hD hS hl hb0 hag
  | invokespecial ix =>
    unfold s_lk at hlk
    unfold s_ins at hh
    dsimp only at hlk hh
    generalize hq : s_nth info 0 = q at hh hlk
    match q, hq, hh, hlk with
    | 0, _, hh, hlk =>
      have hlk : (s_gat (s_nth info 1) (.methodLink (s_own mi) ix Lib.objectInit) && s_pre [.instanceMethod Lib.objectInit, .code Lib.objectInit ⟨#[0xb1]⟩ 1 none] (info.drop 2)) = true := hlk
      rw [Bool.and_eq_true] at hlk
      have g := s_pre_v hlk.2
      exact v_ini hih hρ hm (s_gat_v hlk.1) (g _ (by simp)) (g _ (by simp)) hd hn hh X hin hE hA hP hD hS hl hb0 hag
    | 2, hq, hh, hlk => exact v_callI hls hih hm hq hlk hd hn hh X hin hE hA hP hD hS hl hb0 hag
    | 5, hq, hh, hlk => exact v_callSU hls hih hm hq hlk hd hn hh X hin hE hA hP hD hS hl hb0 hag
    | 12, hq, hh, hlk => exact v_callIN hls hih hm hq hlk hd hn hh X hin hE hA hP hD hS hl hb0 hag
    | 1, _, _, hlk => exact absurd hlk Bool.false_ne_true
    | 3, _, _, hlk => exact absurd hlk Bool.false_ne_true
    | 4, _, _, hlk => exact absurd hlk Bool.false_ne_true
    | 6, _, _, hlk => exact absurd hlk Bool.false_ne_true
    | 7, _, _, hlk => exact absurd hlk Bool.false_ne_true
    | 8, _, _, hlk => exact absurd hlk Bool.false_ne_true
    | 9, _, _, hlk => exact absurd hlk Bool.false_ne_true
    | 10, _, _, hlk => exact absurd hlk Bool.false_ne_true
    | 11, _, _, hlk => exact absurd hlk Bool.false_ne_true
    | _ + 13, _, _, hlk => exact absurd hlk Bool.false_ne_true
  | invokestatic ix =>
    have hlk : (Nat.beq (s_nth info 0) 1 && s_clk mi ix info) = true := hlk
    rw [Bool.and_eq_true] at hlk
    exact v_callS hls hih hm (Nat.eq_of_beq_eq_true hlk.1) hlk.2 hd hn hh X hin hE hA hP hD hS hl hb0 hag
  | invokevirtual ix =>
    unfold s_lk at hlk
    dsimp only at hlk
    generalize hq : s_nth info 0 = q at hlk
    match q, hq, hlk with
    | 3, hq, hlk => exact v_callV hls hih hm hq hlk hd hn hh X hin hE hA hP hD hS hl hb0 hag
    | 6, hq, hlk => exact v_callU hls hih hm hq hlk hd hn hh X hin hE hA hP hD hS hl hb0 hag
    | 13, hq, hlk => exact v_callVN hls hih hm hq hlk hd hn hh X hin hE hA hP hD hS hl hb0 hag
    | 0, _, hlk => exact absurd hlk Bool.false_ne_true
    | 1, _, hlk => exact absurd hlk Bool.false_ne_true
    | 2, _, hlk => exact absurd hlk Bool.false_ne_true
    | 4, _, hlk => exact absurd hlk Bool.false_ne_true
    | 5, _, hlk => exact absurd hlk Bool.false_ne_true
    | 7, _, hlk => exact absurd hlk Bool.false_ne_true
    | 8, _, hlk => exact absurd hlk Bool.false_ne_true
    | 9, _, hlk => exact absurd hlk Bool.false_ne_true
    | 10, _, hlk => exact absurd hlk Bool.false_ne_true
    | 11, _, hlk => exact absurd hlk Bool.false_ne_true
    | 12, _, hlk => exact absurd hlk Bool.false_ne_true
    | _ + 14, _, hlk => exact absurd hlk Bool.false_ne_true
  | invokeinterface ix ct =>
    have hlk : (Nat.beq (s_nth info 0) 4 && s_clk mi ix info) = true := hlk
    rw [Bool.and_eq_true] at hlk
    exact v_callF hls hih hm (Nat.eq_of_beq_eq_true hlk.1) hlk.2 hd hn hh X hin hE hA hP hD hS hl hb0 hag
  | ireturn =>
    have hlk : s_rt mi = s_rty (s_nth info 0) := of_decide_eq_true hlk
    unfold s_ins at hh
    dsimp only at hh
    generalize hq : s_nth info 0 = q at hh hlk
    match q, hh, hlk with
    | 0, hh, hlk => exact v_iret hlk hd hh X hin hE hA hP hD hS hl hb0 hag
    | 1, hh, hlk => exact v_zret hlk hd hh X hin hE hA hP hD hS hl hb0 hag
    | 2, hh, hlk => exact v_cret hlk hd hh X hin hE hA hP hD hS hl hb0 hag
    | 5, hh, hlk => exact v_bret hlk hd hh X hin hE hA hP hD hS hl hb0 hag
    | 3, hh, _ => exact absurd hh Bool.false_ne_true
    | 4, hh, _ => exact absurd hh Bool.false_ne_true
    | _ + 6, hh, _ => exact absurd hh Bool.false_ne_true
  | lreturn => exact v_lret (of_decide_eq_true hlk) hd hh X hin hE hA hP hD hS hl hb0 hag
  | freturn => exact v_fret (of_decide_eq_true hlk) hd hh X hin hE hA hP hD hS hl hb0 hag
  | dreturn => exact v_dret (of_decide_eq_true hlk) hd hh X hin hE hA hP hD hS hl hb0 hag
  | areturn => exact v_aret hlk hd hh X hin hE hA hP hD hS hl hb0 hag
  | return_ => exact v_vret (of_decide_eq_true hlk) hd hh X hin hE hA hP hD hS hl hb0 hag
  | _ => exact absurd hh Bool.false_ne_true
theorem s_step_snd (hls : l.stackTraces = false) (hρ : s_ρ ρ xs) (hih : s_All l D tc ξ xs ρ f) : s_All l D tc ξ xs ρ (s_step s_P f) := by
  intro mi pc lo st h iv c n k hm hh
  unfold s_step at hh
  split at hh
  · next e he =>
    have he : s_find (s_code mi) pc = some e := he
    obtain ⟨hd, hn, hlk⟩ := s_row hm he
    obtain ⟨-, h2⟩ := s_find_v he
    obtain ⟨epc, ins, npc, info⟩ := e
    have h2 : epc = pc := h2
    subst h2
    intro p e R s m args below meth cc A α α0 b0 H locs ls X hin hE hA hP hD hS hl hb0 hag
    exact s_snd_ins hls hih hρ hm hd hn hlk hh X hin hE hA hP hD hS hl hb0 hag
  · cases hh
theorem s_chk_snd (hls : l.stackTraces = false) (hρ : s_ρ ρ xs) : ∀ d, s_All l D tc ξ xs ρ (s_chk s_P d)
  | 0 => fun _ _ _ _ _ _ _ _ _ _ hh => absurd hh Bool.false_ne_true
  | d + 1 => by
    rw [s_chk_s]
    exact s_step_snd hls hρ (s_chk_snd hls hρ d)
end S13
