/-! STEPS that touch no memory, on the machine. -/
section SNDP
variable {p : Program} {l : Launch} {e : Env} {R : Room} {s : State} {m : MethodId} {args : Array Value} {below : List Frame} {meth : Method} {c : Code} {H : Heap} {locs : List Loc} {cells slots : Nat} {Q : State → Prop}
variable {cc : ByteArray} {G : Gc}
theorem snd_ldA (hx : p.tables.exec = Jvm.exec) (hb : c.code = cc) {v : Value} {i pc n : Nat} {ls : Array Slot} {rest : List Value} (hv : v = .null ∨ (∃ x, v = .ref x) ∨ ∃ x, v = .retAddr x) (hl : ls[i]? = some (.val (cv G v)))
    (hd : (∃ k : Fin 4, (k : Nat) = i ∧ n = 1 ∧ decode cc pc = .ok (.aload_n k, 1)) ∨ (n = 2 ∧ decode cc pc = .ok (.aload i, 2)))
    (k : W p l e R s m args below meth c H locs cells slots Q (F0 m (pc + n) ls (cv G v :: rest))) : W p l e R s m args below meth c H locs cells slots Q (F0 m pc ls rest) := by
  rcases hd with ⟨kk, hk, rfl, hd⟩ | ⟨rfl, hd⟩
  · rcases hv with rfl | ⟨x, rfl⟩ | ⟨x, rfl⟩
    · exact lv_aload_nN hx hb hd hk hl k
    · exact lv_aload_n hx hb hd hk hl k
    · exact lv_aload_n hx hb hd hk hl k
  · rcases hv with rfl | ⟨x, rfl⟩ | ⟨x, rfl⟩
    · exact lv_aloadN hx hb hd hl k
    · exact lv_aload hx hb hd hl k
    · exact lv_aload hx hb hd hl k
theorem snd_stp (hx : p.tables.exec = Jvm.exec) (hb : c.code = cc) {own : String} (hown : s.vm.findClass own = some m.cls) {cI : Nat → Option Int32} {cJ : Nat → Option Int64} (hcI : ∀ i v, cI i = some v → (Jvm.Cond.constant own i v).before args s = true) (hcJ : ∀ i v, cJ i = some v → (Jvm.Cond.constantLong own i v).before args s = true)
    {nL : Nat} {ins : Instr} {len pc : Nat} {lv : Lc} {st : List Value} {t : Nx} (hdg : decode cc pc = .ok (ins, len)) (hs : stp nL cI cJ ins len pc lv st = some t) {ls : Array Slot} (hl : lv_has ls nL (cvl G lv))
    (kk : ∀ ls', lv_has ls' nL (cvl G t.2.1) → W p l e R s m args below meth c H locs cells slots Q (F0 m t.1 ls' (t.2.2.map (cv G)))) : W p l e R s m args below meth c H locs cells slots Q (F0 m pc ls (st.map (cv G))) := by
  have one : ∀ {n : Nat} {o : Option (List Value)}, nxt len n pc lv o = some t → len = n ∧ ∃ t', o = some t' ∧ W p l e R s m args below meth c H locs cells slots Q (F0 m (pc + n) ls (t'.map (cv G))) := by
    intro n o h
    obtain ⟨h1, t', h2, rfl⟩ := nxt_some h
    exact ⟨h1, t', h2, kk ls hl⟩
  have jp : ∀ {off : Int} {cd : Prop} {_ : Decidable cd} {r : List Value}, jmp len pc off lv cd r = some t → len = 3 ∧ (pc : Int) + off = ((tgt pc off : Nat) : Int) ∧ (cd → W p l e R s m args below meth c H locs cells slots Q (F0 m (tgt pc off) ls (r.map (cv G)))) ∧ (¬ cd → W p l e R s m args below meth c H locs cells slots Q (F0 m (pc + 3) ls (r.map (cv G)))) := by
    intro off cd _ r h
    obtain ⟨h1, h2, h3⟩ := jmp_some h
    refine ⟨h1, h2, fun hc => ?_, fun hc => ?_⟩
    · rcases h3 with ⟨_, rfl⟩ | ⟨h, _⟩
      · exact kk ls hl
      · exact absurd hc h
    · rcases h3 with ⟨h, _⟩ | ⟨_, rfl⟩
      · exact absurd h hc
      · exact kk ls hl
  cases ins <;> simp only [stp] at hs <;> try (cases hs; done)
  case iconst n => obtain ⟨rfl, t', h2, k⟩ := one hs; cases h2; exact lv_iconst hx hb hdg rfl k
  case bipush n => obtain ⟨rfl, t', h2, k⟩ := one hs; cases h2; exact lv_bipush hx hb hdg rfl k
  case sipush n => obtain ⟨rfl, t', h2, k⟩ := one hs; cases h2; exact lv_sipush hx hb hdg rfl k
  case lconst n => obtain ⟨rfl, t', h2, k⟩ := one hs; cases h2; exact lv_lconst hx hb hdg rfl k
  case aconst_null => obtain ⟨rfl, t', h2, k⟩ := one hs; cases h2; exact lv_null hx hb hdg k
  case ldc i =>
    obtain ⟨rfl, t', h2, k⟩ := one hs
    obtain ⟨v, hv, rfl⟩ := Option.map_eq_some_iff.mp h2
    exact lv_ldc hx hb hown (hcI _ _ hv) hdg k
  case ldc_w i =>
    obtain ⟨rfl, t', h2, k⟩ := one hs
    obtain ⟨v, hv, rfl⟩ := Option.map_eq_some_iff.mp h2
    exact lv_ldcw hx hb hown (hcI _ _ hv) hdg k
  case ldc2_w i =>
    obtain ⟨rfl, t', h2, k⟩ := one hs
    obtain ⟨v, hv, rfl⟩ := Option.map_eq_some_iff.mp h2
    exact lv_ldc2 hx hb hown (hcJ _ _ hv) hdg k
  case iload_n i => obtain ⟨rfl, t', h2, k⟩ := one hs; obtain ⟨x, h3, rfl⟩ := ldI_some h2; exact lv_iload_n hx hb hdg rfl (lcg_ls hl h3) k
  case iload i => obtain ⟨rfl, t', h2, k⟩ := one hs; obtain ⟨x, h3, rfl⟩ := ldI_some h2; exact lv_iload hx hb hdg (lcg_ls hl h3) k
  case lload_n i => obtain ⟨rfl, t', h2, k⟩ := one hs; obtain ⟨x, h3, rfl⟩ := ldJ_some h2; exact lv_lload_n hx hb hdg rfl (lcg_ls hl h3) k
  case lload i => obtain ⟨rfl, t', h2, k⟩ := one hs; obtain ⟨x, h3, rfl⟩ := ldJ_some h2; exact lv_lload hx hb hdg (lcg_ls hl h3) k
  case aload_n i => obtain ⟨rfl, t', h2, k⟩ := one hs; obtain ⟨v, h3, rfl, h4⟩ := ldA_some h2; exact snd_ldA hx hb h4 (lcg_ls hl h3) (Or.inl ⟨_, rfl, rfl, hdg⟩) k
  case aload i => obtain ⟨rfl, t', h2, k⟩ := one hs; obtain ⟨v, h3, rfl, h4⟩ := ldA_some h2; exact snd_ldA hx hb h4 (lcg_ls hl h3) (Or.inr ⟨rfl, hdg⟩) k
  case istore_n i => obtain ⟨x, r, rfl, rfl, hn, rfl⟩ := stI_some hs; exact lv_istore_n hx hb hdg rfl hl hn (lc1_cv G lv _ (.int x)) (fun ls' h => kk ls' h)
  case istore i => obtain ⟨x, r, rfl, rfl, hn, rfl⟩ := stI_some hs; exact lv_istore hx hb hdg hl hn (lc1_cv G lv _ (.int x)) (fun ls' h => kk ls' h)
  case lstore_n i => obtain ⟨x, r, rfl, rfl, hn, rfl⟩ := stJ_some hs; exact lv_lstore_n hx hb hdg rfl hl hn (lc2_cv G lv _ (.long x)) (fun ls' h => kk ls' h)
  case lstore i => obtain ⟨x, r, rfl, rfl, hn, rfl⟩ := stJ_some hs; exact lv_lstore hx hb hdg hl hn (lc2_cv G lv _ (.long x)) (fun ls' h => kk ls' h)
  case astore_n i =>
    obtain ⟨v, r, rfl, rfl, hn, rfl, rfl | ⟨x, rfl⟩⟩ := stA_some hs
    · exact lv_astore_nN hx hb hdg rfl hl hn (lc1_cv G lv _ .null) (fun ls' h => kk ls' h)
    · exact lv_astore_n hx hb hdg rfl hl hn (lc1_cv G lv _ (.ref x)) (fun ls' h => kk ls' h)
  case astore i =>
    obtain ⟨v, r, rfl, rfl, hn, rfl, rfl | ⟨x, rfl⟩⟩ := stA_some hs
    · exact lv_astoreN hx hb hdg hl hn (lc1_cv G lv _ .null) (fun ls' h => kk ls' h)
    · exact lv_astore hx hb hdg hl hn (lc1_cv G lv _ (.ref x)) (fun ls' h => kk ls' h)
  case iinc i n =>
    unfold iincr at hs
    split at hs
    · next x hg =>
      split at hs
      · next hc =>
        cases hs
        obtain ⟨rfl, hn⟩ := hc
        obtain ⟨k, hk⟩ := List.getElem?_of_mem (show (i, Value.int x) ∈ cvl G lv from List.mem_map.mpr ⟨(i, .int x), lcg_mem hg, rfl⟩)
        exact lv_iinc hx hb hdg hl hk rfl hn (lc1_cv G lv _ (.int (x + Int32.ofInt n))) (fun ls' h => kk ls' h)
      · cases hs
    · cases hs
  case iadd => obtain ⟨rfl, t', h2, k⟩ := one hs; obtain ⟨x, y, r, rfl, rfl⟩ := bI_some h2; exact lv_iadd hx hb hdg k
  case isub => obtain ⟨rfl, t', h2, k⟩ := one hs; obtain ⟨x, y, r, rfl, rfl⟩ := bI_some h2; exact lv_isub hx hb hdg k
  case imul => obtain ⟨rfl, t', h2, k⟩ := one hs; obtain ⟨x, y, r, rfl, rfl⟩ := bI_some h2; exact lv_imul hx hb hdg k
  case iand => obtain ⟨rfl, t', h2, k⟩ := one hs; obtain ⟨x, y, r, rfl, rfl⟩ := bI_some h2; exact lv_iand hx hb hdg k
  case ior => obtain ⟨rfl, t', h2, k⟩ := one hs; obtain ⟨x, y, r, rfl, rfl⟩ := bI_some h2; exact lv_ior hx hb hdg k
  case ixor => obtain ⟨rfl, t', h2, k⟩ := one hs; obtain ⟨x, y, r, rfl, rfl⟩ := bI_some h2; exact lv_ixor hx hb hdg k
  case idiv => obtain ⟨rfl, t', h2, k⟩ := one hs; obtain ⟨x, y, r, rfl, h0, rfl⟩ := dI_some h2; exact lv_idiv hx hb hdg h0 k
  case irem => obtain ⟨rfl, t', h2, k⟩ := one hs; obtain ⟨x, y, r, rfl, h0, rfl⟩ := dI_some h2; exact lv_irem hx hb hdg h0 k
  case ineg => obtain ⟨rfl, t', h2, k⟩ := one hs; obtain ⟨x, r, rfl, rfl⟩ := oI_some h2; exact lv_ineg hx hb hdg k
  case ladd => obtain ⟨rfl, t', h2, k⟩ := one hs; obtain ⟨x, y, r, rfl, rfl⟩ := bJ_some h2; exact lv_ladd hx hb hdg k
  case lsub => obtain ⟨rfl, t', h2, k⟩ := one hs; obtain ⟨x, y, r, rfl, rfl⟩ := bJ_some h2; exact lv_lsub hx hb hdg k
  case lmul => obtain ⟨rfl, t', h2, k⟩ := one hs; obtain ⟨x, y, r, rfl, rfl⟩ := bJ_some h2; exact lv_lmul hx hb hdg k
  case land => obtain ⟨rfl, t', h2, k⟩ := one hs; obtain ⟨x, y, r, rfl, rfl⟩ := bJ_some h2; exact lv_land hx hb hdg k
  case lor => obtain ⟨rfl, t', h2, k⟩ := one hs; obtain ⟨x, y, r, rfl, rfl⟩ := bJ_some h2; exact lv_lor hx hb hdg k
  case lxor => obtain ⟨rfl, t', h2, k⟩ := one hs; obtain ⟨x, y, r, rfl, rfl⟩ := bJ_some h2; exact lv_lxor hx hb hdg k
  case ldiv => obtain ⟨rfl, t', h2, k⟩ := one hs; obtain ⟨x, y, r, rfl, h0, rfl⟩ := dJ_some h2; exact lv_ldiv hx hb hdg h0 k
  case lrem => obtain ⟨rfl, t', h2, k⟩ := one hs; obtain ⟨x, y, r, rfl, h0, rfl⟩ := dJ_some h2; exact lv_lrem hx hb hdg h0 k
  case lneg => obtain ⟨rfl, t', h2, k⟩ := one hs; obtain ⟨x, r, rfl, rfl⟩ := oJ_some h2; exact lv_lneg hx hb hdg k
  case ishl => obtain ⟨rfl, t', h2, k⟩ := one hs; obtain ⟨x, y, r, rfl, rfl⟩ := bI_some h2; exact lv_ishl hx hb hdg k
  case ishr => obtain ⟨rfl, t', h2, k⟩ := one hs; obtain ⟨x, y, r, rfl, rfl⟩ := bI_some h2; exact lv_ishr hx hb hdg k
  case iushr => obtain ⟨rfl, t', h2, k⟩ := one hs; obtain ⟨x, y, r, rfl, rfl⟩ := bI_some h2; exact lv_iushr hx hb hdg rfl k
  case lshl => obtain ⟨rfl, t', h2, k⟩ := one hs; obtain ⟨x, y, r, rfl, rfl⟩ := bS_some h2; exact lv_lshl hx hb hdg rfl k
  case lshr => obtain ⟨rfl, t', h2, k⟩ := one hs; obtain ⟨x, y, r, rfl, rfl⟩ := bS_some h2; exact lv_lshr hx hb hdg rfl k
  case lushr => obtain ⟨rfl, t', h2, k⟩ := one hs; obtain ⟨x, y, r, rfl, rfl⟩ := bS_some h2; exact lv_lushr hx hb hdg rfl k
  case lcmp => obtain ⟨rfl, t', h2, k⟩ := one hs; obtain ⟨x, y, r, rfl, rfl⟩ := bC_some h2; exact W.lcmp hx hb hdg k
  case i2l => obtain ⟨rfl, t', h2, k⟩ := one hs; obtain ⟨x, r, rfl, rfl⟩ := oIJ_some h2; exact lv_i2l hx hb hdg rfl k
  case l2i => obtain ⟨rfl, t', h2, k⟩ := one hs; obtain ⟨x, r, rfl, rfl⟩ := oJI_some h2; exact lv_l2i hx hb hdg rfl k
  case i2b => obtain ⟨rfl, t', h2, k⟩ := one hs; obtain ⟨x, r, rfl, rfl⟩ := oI_some h2; exact lv_i2b hx hb hdg rfl k
  case i2c => obtain ⟨rfl, t', h2, k⟩ := one hs; obtain ⟨x, r, rfl, rfl⟩ := oI_some h2; exact lv_i2c hx hb hdg rfl k
  case dup => obtain ⟨rfl, t', h2, k⟩ := one hs; obtain ⟨v, r, rfl, hc, rfl⟩ := dup1_some h2; exact lv_dup hx hb hdg (by rw [cv_cat]; exact hc) k
  case dup2 => obtain ⟨rfl, t', h2, k⟩ := one hs; obtain ⟨va, vb, r, rfl, h3, h4, rfl⟩ := dup2c_some h2; exact lv_dup2_11 hx hb hdg (by rw [cv_cat]; exact h3) (by rw [cv_cat]; exact h4) k
  case pop => obtain ⟨rfl, t', h2, k⟩ := one hs; obtain ⟨v, rfl, hc⟩ := pop1_some h2; exact lv_pop hx hb hdg (by rw [cv_cat]; exact hc) k
  case pop2 => obtain ⟨rfl, t', h2, k⟩ := one hs; obtain ⟨v, rfl, hc⟩ := pop2c_some h2; exact lv_pop2_2 hx hb hdg (by rw [cv_cat]; exact hc) k
  case goto off => obtain ⟨rfl, h2, k1, _⟩ := jp hs; exact lv_goto hx hb hdg h2 (k1 trivial)
  case ifCond cd off =>
    unfold ifZ at hs
    split at hs
    · cases cd <;> (obtain ⟨rfl, h2, k1, k2⟩ := jp hs)
      · exact lv_if_eq hx hb hdg h2 k1 k2
      · exact lv_if_ne hx hb hdg h2 k1 (fun h => k2 (fun h' => h' h))
      · exact lv_if_lt hx hb hdg h2 k1 k2
      · exact lv_if_ge hx hb hdg h2 k1 k2
      · exact lv_if_gt hx hb hdg h2 k1 k2
      · exact lv_if_le hx hb hdg h2 k1 k2
    · cases hs
  case if_icmp cd off =>
    unfold ifC at hs
    split at hs
    · cases cd <;> (obtain ⟨rfl, h2, k1, k2⟩ := jp hs)
      · exact lv_icmp_eq hx hb hdg h2 k1 k2
      · exact lv_icmp_ne hx hb hdg h2 k1 (fun h => k2 (fun h' => h' h))
      · exact lv_icmp_lt hx hb hdg h2 k1 k2
      · exact lv_icmp_ge hx hb hdg h2 k1 k2
      · exact lv_icmp_gt hx hb hdg h2 k1 k2
      · exact lv_icmp_le hx hb hdg h2 k1 k2
    · cases hs
  case ifnull off =>
    unfold ifN at hs
    split at hs
    · split at hs
      · next hc => cases hs; subst hc; exact lv_ifnull hx hb hdg (kk ls hl)
      · cases hs
    · split at hs
      · next hc => cases hs; obtain ⟨rfl, h0⟩ := hc; exact lv_ifnullN hx hb hdg (tgt_ok h0) (kk ls hl)
      · cases hs
    · cases hs
  case tableswitch dflt lo hi offs =>
    split at hs
    · next x r =>
      split at hs
      · next hc =>
        split at hs
        · next h1 => cases hs; exact lv_tableOut hx hb hdg h1 (tgt_ok hc.1) (kk ls hl)
        · next h1 =>
          obtain ⟨o, ho, rfl⟩ := Option.map_eq_some_iff.mp hs
          have h0 : 0 ≤ (pc : Int) + o := by
            have := Array.all_eq_true_iff_forall_mem.mp hc.2 o (Array.mem_of_getElem? ho)
            exact of_decide_eq_true this
          exact lv_tableIn hx hb hdg (fun q => h1 (Or.inl q)) (fun q => h1 (Or.inr q)) ho (tgt_ok h0) (kk ls hl)
      · cases hs
    · cases hs
  case lookupswitch dflt ps =>
    split at hs
    · next x r =>
      split at hs
      · next hc => cases hs; exact lv_lookup hx hb hdg hc.1 rfl (tgt_ok hc.2) (kk ls hl)
      · cases hs
    · cases hs
end SNDP
