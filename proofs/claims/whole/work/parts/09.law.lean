/-! THE CLAIM OUT OF ONE WALK OF THE LAW'S BODY. Your part is whole_start (and what it stands on); all else here is the same for every law, but numbers. -/
def R_law : String := "ChainedMenLaw"
def lw_P (b : Addr) (xs : List Int32) (args : Array Value) (s : State) : Prop := args = #[.ref b] ∧ s.IntsAt b xs ∧ xs.length ≤ 384 ∧ (Jvm.Cond.and given_1 narrow_1).before args s = true
def lw_Q (_ : Array Value) (s : State) (o : Outcome) (t : State) : Prop := o = .returned (some (.int 1)) ∧ Framed s o t [] 600000 7302250
def lw_Z (below : List Frame) (a : Array Value) (s : State) : State → Prop := fun t => ∃ o, t.status = .running ∧ Ended t below o ∧ lw_Q a s o t
/-- the law's own end, with 1 on the stack, nothing written that was there before, its room as the claim has it -/
theorem lw_ret {p : Program} {l : Launch} {e : Env} {s : State} {m : MethodId} {below : List Frame} {meth : Method} {c : Code} {b : Nat} (hx : p.tables.exec = Jvm.exec) (hb : c.code = code) (hr : meth.sig.returnType = ret) (hlocks : meth.locks = false) {pc : Nat} {H : Heap} {ls : Array Slot} (hdg : decode code pc = .ok (.ireturn, 1)) : W p l e room_1 s m #[Value.ref b] below meth c H [] 600000 7302250 (lw_Z below #[Value.ref b] s) (F0 m pc ls [.int 1]) := by
  intro T hT X
  obtain ⟨fs, hret, hrun, hended, hW, hframe⟩ := X.leave (v := some (.int 1)) (hlocks := hlocks) (fun h => by rw [hr] at h; cases h)
  have hmeth' : T.vm.method? m = some meth := X.method'
  refine ⟨T.setFrames fs, ?_, .returned (some (.int 1)), hrun, hended, rfl, ⟨_, rfl⟩, hW, hframe⟩
  jvm_step X.here [X.here.top, hx, hb, hdg, hmeth', hr, ret, narrow_b1]
  (try refine ⟨rfl, ?_⟩); (try refine ⟨rfl, ?_⟩)
  first | (intro acts; rw [hret _ acts rfl rfl rfl]) | rw [hret _ _ rfl rfl rfl]
  exact Steps.refl _
/-- what holds at the law's entry: the machine, the code, the tables' words (any of lw_tbl by 'hts w (by decide +kernel)'), the script of L ints xs at the cell b, what the Statement gives of the start (any of its parts by flat_of_before) -/
def lw_At (p : Program) (s : State) (m : MethodId) (meth : Method) (c : Code) (b L : Nat) (xs : Nat → Int32) : Prop :=
  p.tables.exec = Jvm.exec ∧ c.code = code ∧ meth.sig.returnType = ret ∧ c.maxLocals = 4 ∧ s.vm.findClass R_law = some m.cls ∧ (∀ w ∈ lw_tbl, w.before #[Value.ref b] s = true) ∧ va_X b L xs s s.heap ∧ b < s.heap.size ∧ meth.locks = false ∧ (Jvm.Cond.and given_1 narrow_1).before #[Value.ref b] s = true
def Y_law : Yd := (x, code, 4, ret)
/-- the law's own stand: its script of n ints at b, its room, nothing old written -/
def VL (b n : Nat) (xs : Nat → Int32) : Vt := fun g l p e R s m args below meth c cells slots Q => R = room_1 ∧ cells ≤ 600000 ∧ slots ≤ 7302250 ∧ args = #[Value.ref b] ∧ Q = lw_Z below #[Value.ref b] s ∧ va_X b n xs s s.heap ∧ b < s.heap.size ∧ (∀ q, AS g q → s.heap.size ≤ q) ∧ g.2.2 (NN + 3) = b
theorem Fits.vl {b n lv : Nat} {xs : Nat → Int32} (h : lv < 1000) : Fits (VL b n xs) lv := by
  intro g l p e R s m args below meth c cells slots Q hV
  obtain ⟨rfl, h1, h2, -⟩ := hV
  refine ⟨?_, ?_, h1, h2⟩
  · show lv + 1 ≤ 2048
    omega
  · show 40 * (lv + 1) ≤ 84000
    omega
def ldX (xs : Nat → Int32) (n : Nat) (i : Int32) : Option Int32 := if 0 ≤ i.toInt ∧ i.toInt < n then some (xs i.toNatClampNeg) else none
section LAW
variable {pc b n : Nat} {xs : Nat → Int32} {L : List (Option Value)} {st : List Value} {h : Hp} {ρ : Type} {o : ρ}
theorem r_sld {i : Int32} {F : Int32 → Option ρ} (d : decode Y_law.2.1 pc = .ok (.iaload, 1)) (hf : (ldX xs n i).bind F = some o) (kk : ∀ v, F v = some o → Run Y_law (VL b n xs) (pc + 1) L (.int v :: st) h) : Run Y_law (VL b n xs) pc L (.int i :: .ref (NN + 3) :: st) h := by
  obtain ⟨hb, hf⟩ := ld_some hf
  intro g l p e R s m args below meth c cells slots Q hV C H locs ls hP hD hS hl
  have hV0 := hV
  obtain ⟨-, -, -, -, -, hX, hbl, hA, hbA⟩ := hV
  have h1 := va_sld (p := p) (l := l) (e := e) (R := R) (m := m) (args := args) (below := below) (meth := meth) (c := c) (H := H) (locs := locs) (cells := cells) (slots := slots) (Q := Q) (pc := pc) (ls := ls) (rest := st.map (rv g.2.2)) C.1 C.2.1 hX hbl (A := AS g) (fun q => absurd (hA b q) (by omega)) hS (i := i) (inb_vp hb) d (kk _ hf g l p e R s m args below meth c cells slots Q hV0 C H locs ls hP hD hS hl)
  rw [← hbA] at h1
  exact h1
theorem r_slen (d : decode Y_law.2.1 pc = .ok (.arraylength, 1)) (kk : Run Y_law (VL b n xs) (pc + 1) L (.int (nI n) :: st) h) : Run Y_law (VL b n xs) pc L (.ref (NN + 3) :: st) h := by
  intro g l p e R s m args below meth c cells slots Q hV C H locs ls hP hD hS hl
  have hV0 := hV
  obtain ⟨-, -, -, -, -, hX, hbl, hA, hbA⟩ := hV
  have h1 := va_slen (p := p) (l := l) (e := e) (R := R) (m := m) (args := args) (below := below) (meth := meth) (c := c) (H := H) (locs := locs) (cells := cells) (slots := slots) (Q := Q) (pc := pc) (ls := ls) (rest := st.map (rv g.2.2)) C.1 C.2.1 hX hbl (A := AS g) (fun q => absurd (hA b q) (by omega)) hS d (kk g l p e R s m args below meth c cells slots Q hV0 C H locs ls hP hD hS hl)
  rw [← hbA] at h1
  exact h1
theorem e_law (d : decode Y_law.2.1 pc = .ok (.ireturn, 1)) : Run Y_law (VL b n xs) pc L [.int 1] h := by
  intro g l p e R s m args below meth c cells slots Q hV C H locs ls hP hD hS hl
  obtain ⟨rfl, h1, h2, rfl, rfl, hX, hbl, hA, hbA⟩ := hV
  refine va_forget (fun q hq => hA _ (hS.2.2 q hq)) ?_
  refine W.widen (k := 600000) (n := 7302250) h1 h2 ?_
  exact lw_ret C.1 C.2.1 C.2.2.1 C.2.2.2.1 d
end LAW
def f_law (F : Nat) (xs : Nat → Int32) (n : Nat) (h : Hp) : Option Unit :=
  fix (σ := Int32 × Hp) (ρ := Unit) (fun self2 s1 =>
    (if ((nI n) - (6 : Int32)) < s1.1 then (
      some ())
    else (
      (ldX xs n s1.1).bind fun v4 =>
      (if (v4 &&& (63 : Int32)) = 0 then (
        (ldX xs n (s1.1 + (1 : Int32))).bind fun v6 =>
        (ldX xs n (s1.1 + (2 : Int32))).bind fun v7 =>
        (f_X7_row F v6 v7 s1.2).bind fun v8 =>
        (ldX xs n (s1.1 + (1 : Int32))).bind fun v9 =>
        (ldX xs n (s1.1 + (2 : Int32))).bind fun v10 =>
        (f_X8_row F v9 v10 v8.2).bind fun v11 =>
        (if v8.1 = v11.1 then (
          self2 ((s1.1 + 6), v11.2))
        else (
          none)))
      else
      (if (v4 &&& (63 : Int32)) = 1 then (
        (ldX xs n (s1.1 + (1 : Int32))).bind fun v14 =>
        (ldX xs n (s1.1 + (2 : Int32))).bind fun v15 =>
        (ldX xs n (s1.1 + (3 : Int32))).bind fun v16 =>
        (f_X7_lay v14 v15 v16 s1.2).bind fun v17 =>
        (ldX xs n (s1.1 + (1 : Int32))).bind fun v18 =>
        (ldX xs n (s1.1 + (2 : Int32))).bind fun v19 =>
        (ldX xs n (s1.1 + (3 : Int32))).bind fun v20 =>
        (f_X8_lay v18 v19 v20 v17.2).bind fun v21 =>
        (if v17.1 = v21.1 then (
          self2 ((s1.1 + 6), v21.2))
        else (
          none)))
      else
      (if (v4 &&& (63 : Int32)) = 2 then (
        (ldX xs n (s1.1 + (1 : Int32))).bind fun v24 =>
        (ldX xs n (s1.1 + (2 : Int32))).bind fun v25 =>
        (f_X7_at v24 v25 s1.2).bind fun v26 =>
        (ldX xs n (s1.1 + (1 : Int32))).bind fun v27 =>
        (ldX xs n (s1.1 + (2 : Int32))).bind fun v28 =>
        (f_X8_at v27 v28 v26.2).bind fun v29 =>
        (if v26.1 = v29.1 then (
          self2 ((s1.1 + 6), v29.2))
        else (
          none)))
      else
      (if (v4 &&& (63 : Int32)) = 3 then (
        (ldX xs n (s1.1 + (1 : Int32))).bind fun v32 =>
        (f_X7_tear v32 s1.2).bind fun v33 =>
        (ldX xs n (s1.1 + (1 : Int32))).bind fun v34 =>
        (f_X8_tear v34 v33.2).bind fun v35 =>
        (if v33.1 = v35.1 then (
          self2 ((s1.1 + 6), v35.2))
        else (
          none)))
      else
      (if (v4 &&& (63 : Int32)) = 4 then (
        (ldX xs n (s1.1 + (1 : Int32))).bind fun v38 =>
        (ldX xs n (s1.1 + (2 : Int32))).bind fun v39 =>
        (ldX xs n (s1.1 + (3 : Int32))).bind fun v40 =>
        (ldX xs n (s1.1 + (4 : Int32))).bind fun v41 =>
        (ldX xs n (s1.1 + (5 : Int32))).bind fun v42 =>
        (f_X7_copy v38 v39 v40 v41 v42 s1.2).bind fun v43 =>
        (ldX xs n (s1.1 + (1 : Int32))).bind fun v44 =>
        (ldX xs n (s1.1 + (2 : Int32))).bind fun v45 =>
        (ldX xs n (s1.1 + (3 : Int32))).bind fun v46 =>
        (ldX xs n (s1.1 + (4 : Int32))).bind fun v47 =>
        (ldX xs n (s1.1 + (5 : Int32))).bind fun v48 =>
        (f_X8_copy F v44 v45 v46 v47 v48 v43.2).bind fun v49 =>
        (if v43.1 = v49.1 then (
          self2 ((s1.1 + 6), v49.2))
        else (
          none)))
      else
      (if (v4 &&& (63 : Int32)) = 5 then (
        (ldX xs n (s1.1 + (1 : Int32))).bind fun v52 =>
        (f_X7_mean F v52 s1.2).bind fun v53 =>
        (ldX xs n (s1.1 + (1 : Int32))).bind fun v54 =>
        (f_X8_mean F v54 v53.2).bind fun v55 =>
        (if v53.1 = v55.1 then (
          self2 ((s1.1 + 6), v55.2))
        else (
          none)))
      else
      (if (v4 &&& (63 : Int32)) = 6 then (
        (ldX xs n (s1.1 + (1 : Int32))).bind fun v58 =>
        (ldX xs n (s1.1 + (2 : Int32))).bind fun v59 =>
        (f_X7_text F v58 v59 s1.2).bind fun v60 =>
        (ldX xs n (s1.1 + (1 : Int32))).bind fun v61 =>
        (ldX xs n (s1.1 + (2 : Int32))).bind fun v62 =>
        (f_X8_text F v61 v62 v60.2).bind fun v63 =>
        (if v60.1 = v63.1 then (
          self2 ((s1.1 + 6), v63.2))
        else (
          none)))
      else
      (if (v4 &&& (63 : Int32)) = 7 then (
        (ldX xs n (s1.1 + (1 : Int32))).bind fun v66 =>
        (ldX xs n (s1.1 + (2 : Int32))).bind fun v67 =>
        (ldX xs n (s1.1 + (3 : Int32))).bind fun v68 =>
        (f_X7_put v66 v67 v68 s1.2).bind fun v69 =>
        (ldX xs n (s1.1 + (1 : Int32))).bind fun v70 =>
        (ldX xs n (s1.1 + (2 : Int32))).bind fun v71 =>
        (ldX xs n (s1.1 + (3 : Int32))).bind fun v72 =>
        (f_X8_put v70 v71 v72 v69.2).bind fun v73 =>
        (if v69.1 = v73.1 then (
          self2 ((s1.1 + 6), v73.2))
        else (
          none)))
      else
      (if (v4 &&& (63 : Int32)) = 8 then (
        (ldX xs n (s1.1 + (1 : Int32))).bind fun v76 =>
        (f_X7_fault F v76 s1.2).bind fun v77 =>
        (ldX xs n (s1.1 + (1 : Int32))).bind fun v78 =>
        (f_X8_fault F v78 v77.2).bind fun v79 =>
        (if v77.1 = v79.1 then (
          self2 ((s1.1 + 6), v79.2))
        else (
          none)))
      else
      (if (v4 &&& (63 : Int32)) = 9 then (
        (ldX xs n (s1.1 + (1 : Int32))).bind fun v82 =>
        (f_X7_yard F v82 s1.2).bind fun v83 =>
        (ldX xs n (s1.1 + (1 : Int32))).bind fun v84 =>
        (f_X8_yard F v84 v83.2).bind fun v85 =>
        (if v83.1 = v85.1 then (
          self2 ((s1.1 + 6), v85.2))
        else (
          none)))
      else
      (if (v4 &&& (63 : Int32)) = 10 then (
        (ldX xs n (s1.1 + (1 : Int32))).bind fun v88 =>
        (ldX xs n (s1.1 + (2 : Int32))).bind fun v89 =>
        (f_X7_man F v88 v89 s1.2).bind fun v90 =>
        (ldX xs n (s1.1 + (1 : Int32))).bind fun v91 =>
        (ldX xs n (s1.1 + (2 : Int32))).bind fun v92 =>
        (f_X8_man F v91 v92 v90.2).bind fun v93 =>
        (if v90.1 = v93.1 then (
          self2 ((s1.1 + 6), v93.2))
        else (
          none)))
      else
      (if (v4 &&& (63 : Int32)) = 11 then (
        (ldX xs n (s1.1 + (1 : Int32))).bind fun v96 =>
        (ldX xs n (s1.1 + (2 : Int32))).bind fun v97 =>
        (f_X7_chain v96 v97 s1.2).bind fun v98 =>
        (ldX xs n (s1.1 + (1 : Int32))).bind fun v99 =>
        (ldX xs n (s1.1 + (2 : Int32))).bind fun v100 =>
        (f_X8_chain F v99 v100 v98.2).bind fun v101 =>
        (if v98.1 = v101.1 then (
          self2 ((s1.1 + 6), v101.2))
        else (
          none)))
      else
      (if (v4 &&& (63 : Int32)) = 12 then (
        (ldX xs n (s1.1 + (1 : Int32))).bind fun v104 =>
        (ldX xs n (s1.1 + (2 : Int32))).bind fun v105 =>
        (f_X7_mark F v104 v105 s1.2).bind fun v106 =>
        (ldX xs n (s1.1 + (1 : Int32))).bind fun v107 =>
        (ldX xs n (s1.1 + (2 : Int32))).bind fun v108 =>
        (f_X8_mark F v107 v108 v106.2).bind fun v109 =>
        (if v106.1 = v109.1 then (
          self2 ((s1.1 + 6), v109.2))
        else (
          none)))
      else
      (if (v4 &&& (63 : Int32)) = 13 then (
        (ldX xs n (s1.1 + (1 : Int32))).bind fun v112 =>
        (f_X7_tide F v112 s1.2).bind fun v113 =>
        (ldX xs n (s1.1 + (1 : Int32))).bind fun v114 =>
        (f_X8_tide v114 v113.2).bind fun v115 =>
        (if v113.1 = v115.1 then (
          self2 ((s1.1 + 6), v115.2))
        else (
          none)))
      else
      (if (v4 &&& (63 : Int32)) = 14 then (
        (ldX xs n (s1.1 + (1 : Int32))).bind fun v118 =>
        (ldX xs n (s1.1 + (2 : Int32))).bind fun v119 =>
        (f_X7_open F v118 v119 s1.2).bind fun v120 =>
        (ldX xs n (s1.1 + (1 : Int32))).bind fun v121 =>
        (ldX xs n (s1.1 + (2 : Int32))).bind fun v122 =>
        (f_X8_open F v121 v122 v120.2).bind fun v123 =>
        (if v120.1 = v123.1 then (
          self2 ((s1.1 + 6), v123.2))
        else (
          none)))
      else
      (if (v4 &&& (63 : Int32)) = 15 then (
        (ldX xs n (s1.1 + (1 : Int32))).bind fun v126 =>
        (ldX xs n (s1.1 + (2 : Int32))).bind fun v127 =>
        (f_X7_step F v126 v127 s1.2).bind fun v128 =>
        (ldX xs n (s1.1 + (1 : Int32))).bind fun v129 =>
        (ldX xs n (s1.1 + (2 : Int32))).bind fun v130 =>
        (f_X8_step F v129 v130 v128.2).bind fun v131 =>
        (if v128.1 = v131.1 then (
          self2 ((s1.1 + 6), v131.2))
        else (
          none)))
      else
      (if (v4 &&& (63 : Int32)) = 16 then (
        (ldX xs n (s1.1 + (1 : Int32))).bind fun v134 =>
        (f_X7_can F v134 s1.2).bind fun v135 =>
        (ldX xs n (s1.1 + (1 : Int32))).bind fun v136 =>
        (f_X8_can F v136 s1.2).bind fun v137 =>
        (if v135 = v137.1 then (
          self2 ((s1.1 + 6), v137.2))
        else (
          none)))
      else
      (if (v4 &&& (63 : Int32)) = 17 then (
        (ldX xs n (s1.1 + (1 : Int32))).bind fun v140 =>
        (f_X7_undo v140 s1.2).bind fun v141 =>
        (ldX xs n (s1.1 + (1 : Int32))).bind fun v142 =>
        (f_X8_undo F v142 v141.2).bind fun v143 =>
        (if v141.1 = v143.1 then (
          self2 ((s1.1 + 6), v143.2))
        else (
          none)))
      else
      (if (v4 &&& (63 : Int32)) = 18 then (
        (ldX xs n (s1.1 + (1 : Int32))).bind fun v146 =>
        (f_X7_who F v146 s1.2).bind fun v147 =>
        (ldX xs n (s1.1 + (1 : Int32))).bind fun v148 =>
        (f_X8_who F v148 s1.2).bind fun v149 =>
        (if v147 = v149.1 then (
          self2 ((s1.1 + 6), v149.2))
        else (
          none)))
      else
      (if (v4 &&& (63 : Int32)) = 19 then (
        (ldX xs n (s1.1 + (1 : Int32))).bind fun v152 =>
        (f_X7_keep v152 s1.2).bind fun v153 =>
        (ldX xs n (s1.1 + (1 : Int32))).bind fun v154 =>
        (f_X8_keep F v154 v153.2).bind fun v155 =>
        (if v153.1 = v155.1 then (
          self2 ((s1.1 + 6), v155.2))
        else (
          none)))
      else
      (if (v4 &&& (63 : Int32)) = 20 then (
        (ldX xs n (s1.1 + (1 : Int32))).bind fun v158 =>
        (f_X7_on F v158 s1.2).bind fun v159 =>
        (ldX xs n (s1.1 + (1 : Int32))).bind fun v160 =>
        (f_X8_on F v160 v159.2).bind fun v161 =>
        (if v159.1 = v161.1 then (
          self2 ((s1.1 + 6), v161.2))
        else (
          none)))
      else
      (if (v4 &&& (63 : Int32)) = 21 then (
        (ldX xs n (s1.1 + (1 : Int32))).bind fun v164 =>
        (f_X7_near F v164 s1.2).bind fun v165 =>
        (ldX xs n (s1.1 + (1 : Int32))).bind fun v166 =>
        (f_X8_near F v166 v165.2).bind fun v167 =>
        (if v165.1 = v167.1 then (
          self2 ((s1.1 + 6), v167.2))
        else (
          none)))
      else
      (if (v4 &&& (63 : Int32)) = 22 then (
        (ldX xs n (s1.1 + (1 : Int32))).bind fun v170 =>
        (ldX xs n (s1.1 + (2 : Int32))).bind fun v171 =>
        (f_X7_path F v170 v171 s1.2).bind fun v172 =>
        (ldX xs n (s1.1 + (1 : Int32))).bind fun v173 =>
        (ldX xs n (s1.1 + (2 : Int32))).bind fun v174 =>
        (f_X8_path F v173 v174 v172.2).bind fun v175 =>
        (if v172.1 = v175.1 then (
          self2 ((s1.1 + 6), v175.2))
        else (
          none)))
      else
      (if (v4 &&& (63 : Int32)) = 23 then (
        (f_X7_reach F s1.2).bind fun v178 =>
        (f_X8_reach F v178.2).bind fun v179 =>
        (if v178.1 = v179.1 then (
          self2 ((s1.1 + 6), v179.2))
        else (
          none)))
      else
      (if (v4 &&& (63 : Int32)) = 24 then (
        (ldX xs n (s1.1 + (1 : Int32))).bind fun v182 =>
        (f_X7_where F v182 s1.2).bind fun v183 =>
        (ldX xs n (s1.1 + (1 : Int32))).bind fun v184 =>
        (f_X8_where F v184 v183.2).bind fun v185 =>
        (if v183.1 = v185.1 then (
          self2 ((s1.1 + 6), v185.2))
        else (
          none)))
      else
      (if (v4 &&& (63 : Int32)) = 25 then (
        (ldX xs n (s1.1 + (1 : Int32))).bind fun v188 =>
        (ldX xs n (s1.1 + (2 : Int32))).bind fun v189 =>
        (f_X7_meet F v188 v189 s1.2).bind fun v190 =>
        (ldX xs n (s1.1 + (1 : Int32))).bind fun v191 =>
        (ldX xs n (s1.1 + (2 : Int32))).bind fun v192 =>
        (f_X8_meet F v191 v192 v190.2).bind fun v193 =>
        (if v190.1 = v193.1 then (
          self2 ((s1.1 + 6), v193.2))
        else (
          none)))
      else
      (if (v4 &&& (63 : Int32)) = 26 then (
        (ldX xs n (s1.1 + (1 : Int32))).bind fun v196 =>
        (f_X7_window F v196 s1.2).bind fun v197 =>
        (ldX xs n (s1.1 + (1 : Int32))).bind fun v198 =>
        (f_X8_window F v198 v197.2).bind fun v199 =>
        (if v197.1 = v199.1 then (
          self2 ((s1.1 + 6), v199.2))
        else (
          none)))
      else
      (if (v4 &&& (63 : Int32)) = 27 then (
        (ldX xs n (s1.1 + (1 : Int32))).bind fun v202 =>
        (ldX xs n (s1.1 + (2 : Int32))).bind fun v203 =>
        (f_X7_comes F v202 v203 s1.2).bind fun v204 =>
        (ldX xs n (s1.1 + (1 : Int32))).bind fun v205 =>
        (ldX xs n (s1.1 + (2 : Int32))).bind fun v206 =>
        (f_X8_comes F v205 v206 v204.2).bind fun v207 =>
        (if v204.1 = v207.1 then (
          self2 ((s1.1 + 6), v207.2))
        else (
          none)))
      else
      (if (v4 &&& (63 : Int32)) = 28 then (
        (ldX xs n (s1.1 + (1 : Int32))).bind fun v210 =>
        (f_X7_fetch F v210 s1.2).bind fun v211 =>
        (ldX xs n (s1.1 + (1 : Int32))).bind fun v212 =>
        (f_X8_fetch F v212 v211.2).bind fun v213 =>
        (if v211.1 = v213.1 then (
          self2 ((s1.1 + 6), v213.2))
        else (
          none)))
      else
      (if (v4 &&& (63 : Int32)) = 29 then (
        (ldX xs n (s1.1 + (1 : Int32))).bind fun v216 =>
        (ldX xs n (s1.1 + (2 : Int32))).bind fun v217 =>
        (f_X7_order F v216 v217 s1.2).bind fun v218 =>
        (ldX xs n (s1.1 + (1 : Int32))).bind fun v219 =>
        (ldX xs n (s1.1 + (2 : Int32))).bind fun v220 =>
        (f_X8_order F v219 v220 v218.2).bind fun v221 =>
        (if v218.1 = v221.1 then (
          self2 ((s1.1 + 6), v221.2))
        else (
          none)))
      else
      (if (v4 &&& (63 : Int32)) = 30 then (
        (ldX xs n (s1.1 + (1 : Int32))).bind fun v224 =>
        (f_X7_keys F v224 s1.2).bind fun v225 =>
        (ldX xs n (s1.1 + (1 : Int32))).bind fun v226 =>
        (f_X8_keys F v226 v225.2).bind fun v227 =>
        (if v225.1 = v227.1 then (
          self2 ((s1.1 + 6), v227.2))
        else (
          none)))
      else
      (if (v4 &&& (63 : Int32)) = 31 then (
        (ldX xs n (s1.1 + (1 : Int32))).bind fun v230 =>
        (ldX xs n (s1.1 + (2 : Int32))).bind fun v231 =>
        (f_X7_free F v230 v231 s1.2).bind fun v232 =>
        (ldX xs n (s1.1 + (1 : Int32))).bind fun v233 =>
        (ldX xs n (s1.1 + (2 : Int32))).bind fun v234 =>
        (f_X8_free F v233 v234 v232.2).bind fun v235 =>
        (if v232.1 = v235.1 then (
          self2 ((s1.1 + 6), v235.2))
        else (
          none)))
      else
      (if (v4 &&& (63 : Int32)) = 32 then (
        (ldX xs n (s1.1 + (1 : Int32))).bind fun v238 =>
        (f_X7_filed F v238 s1.2).bind fun v239 =>
        (ldX xs n (s1.1 + (1 : Int32))).bind fun v240 =>
        (f_X8_filed F v240 v239.2).bind fun v241 =>
        (if v239.1 = v241.1 then (
          self2 ((s1.1 + 6), v241.2))
        else (
          none)))
      else
      (if (v4 &&& (63 : Int32)) = 33 then (
        (ldX xs n (s1.1 + (1 : Int32))).bind fun v244 =>
        (f_X7_judge F v244 s1.2).bind fun v245 =>
        (ldX xs n (s1.1 + (1 : Int32))).bind fun v246 =>
        (f_X8_judge F v246 v245.2).bind fun v247 =>
        (if v245.1 = v247.1 then (
          self2 ((s1.1 + 6), v247.2))
        else (
          none)))
      else
      (if (v4 &&& (63 : Int32)) = 34 then (
        (ldX xs n (s1.1 + (1 : Int32))).bind fun v250 =>
        (ldX xs n (s1.1 + (2 : Int32))).bind fun v251 =>
        (f_X7_quarrel v250 v251 s1.2).bind fun v252 =>
        (ldX xs n (s1.1 + (1 : Int32))).bind fun v253 =>
        (ldX xs n (s1.1 + (2 : Int32))).bind fun v254 =>
        (f_X8_quarrel v253 v254 v252.2).bind fun v255 =>
        (if v252.1 = v255.1 then (
          self2 ((s1.1 + 6), v255.2))
        else (
          none)))
      else
      (if (v4 &&& (63 : Int32)) = 35 then (
        (ldX xs n (s1.1 + (1 : Int32))).bind fun v258 =>
        (f_X7_peace v258 s1.2).bind fun v259 =>
        (ldX xs n (s1.1 + (1 : Int32))).bind fun v260 =>
        (f_X8_peace v260 v259.2).bind fun v261 =>
        (if v259.1 = v261.1 then (
          self2 ((s1.1 + 6), v261.2))
        else (
          none)))
      else
      (if (v4 &&& (63 : Int32)) = 36 then (
        (ldX xs n (s1.1 + (1 : Int32))).bind fun v264 =>
        (f_X7_easter F v264 s1.2).bind fun v265 =>
        (ldX xs n (s1.1 + (1 : Int32))).bind fun v266 =>
        (f_X8_easter F v266 v265.2).bind fun v267 =>
        (if v265.1 = v267.1 then (
          self2 ((s1.1 + 6), v267.2))
        else (
          none)))
      else
      (if (v4 &&& (63 : Int32)) = 37 then (
        (ldX xs n (s1.1 + (1 : Int32))).bind fun v270 =>
        (ldX xs n (s1.1 + (2 : Int32))).bind fun v271 =>
        (f_X7_lots F v270 v271 s1.2).bind fun v272 =>
        (ldX xs n (s1.1 + (1 : Int32))).bind fun v273 =>
        (ldX xs n (s1.1 + (2 : Int32))).bind fun v274 =>
        (f_X8_lots F v273 v274 v272.2).bind fun v275 =>
        (if v272.1 = v275.1 then (
          self2 ((s1.1 + 6), v275.2))
        else (
          none)))
      else
      (if (v4 &&& (63 : Int32)) = 38 then (
        (f_X7_asked s1.2).bind fun v278 =>
        (f_X8_asked s1.2).bind fun v279 =>
        (if v278 = v279 then (
          self2 ((s1.1 + 6), s1.2))
        else (
          none)))
      else
      (if (v4 &&& (63 : Int32)) = 39 then (
        (f_X7_upper F s1.2).bind fun v282 =>
        (f_X8_upper F s1.2).bind fun v283 =>
        (if (lg_cmp v282 v283.1) = 0 then (
          self2 ((s1.1 + 6), v283.2))
        else (
          none)))
      else
      (if (v4 &&& (63 : Int32)) = 40 then (
        (f_X7_lower F s1.2).bind fun v286 =>
        (f_X8_lower F s1.2).bind fun v287 =>
        (if (lg_cmp v286 v287.1) = 0 then (
          self2 ((s1.1 + 6), v287.2))
        else (
          none)))
      else
      (if (v4 &&& (63 : Int32)) = 41 then (
        (ldX xs n (s1.1 + (1 : Int32))).bind fun v290 =>
        (f_X7_count F v290 s1.2).bind fun v291 =>
        (ldX xs n (s1.1 + (1 : Int32))).bind fun v292 =>
        (f_X8_count F v292 s1.2).bind fun v293 =>
        (if v291 = v293 then (
          self2 ((s1.1 + 6), s1.2))
        else (
          none)))
      else
      (if (v4 &&& (63 : Int32)) = 42 then (
        (f_X7_finding s1.2).bind fun v296 =>
        (f_X8_finding s1.2).bind fun v297 =>
        (if v296 = v297 then (
          self2 ((s1.1 + 6), s1.2))
        else (
          none)))
      else
      (if (v4 &&& (63 : Int32)) = 43 then (
        (ldX xs n (s1.1 + (1 : Int32))).bind fun v300 =>
        (f_X7_findings v300 s1.2).bind fun v301 =>
        (ldX xs n (s1.1 + (1 : Int32))).bind fun v302 =>
        (f_X8_findings v302 s1.2).bind fun v303 =>
        (if v301 = v303 then (
          self2 ((s1.1 + 6), s1.2))
        else (
          none)))
      else
      (if (v4 &&& (63 : Int32)) = 44 then (
        (f_X7_digest F s1.2).bind fun v306 =>
        (f_X8_digest F s1.2).bind fun v307 =>
        (if (lg_cmp v306 v307.1) = 0 then (
          self2 ((s1.1 + 6), v307.2))
        else (
          none)))
      else
      (
        self2 ((s1.1 + 6), s1.2)))))))))))))))))))))))))))))))))))))))))))))))))) F ((0 : Int32), h)
set_option maxRecDepth 100000 in
set_option maxHeartbeats 40000000 in
theorem S_law (F : Nat) (b n : Nat) (xs : Nat → Int32) (h : Hp) (hf : f_law F xs n h = some ()) : Run Y_law (VL b n xs) 18 [some (.ref (NN + 3)), some (.ref 0), some (.ref 66), some (.int (0 : Int32))] [] h := by
  unfold f_law at hf
  refine r_fix (σ := Int32 × Hp) (fun s1 => [some (.ref (NN + 3)), some (.ref 0), some (.ref 66), some (.int s1.1)]) (fun s1 => s1.2) (fun self2 ih3 s1 hf => ?_) F ((0 : Int32), h) hf
  refine r_iload_n dL_law_18 rfl ?_
  refine r_aload_n dL_law_19 rfl ?_
  refine r_slen dL_law_20 ?_
  refine r_bipush (v := 6) dL_law_21 (by decide) ?_
  refine r_isub dL_law_23 ?_
  refine r_icmp_gt 1442 dL_law_24 (by decide) hf (fun c309 hf => ?_) (fun c309 hf => ?_)
  · refine r_iconst (v := 1) dL_law_1442 (by decide) ?_
    exact e_law dL_law_1443
  · refine r_aload_n dL_law_27 rfl ?_
    refine r_iload_n dL_law_28 rfl ?_
    refine r_sld dL_law_29 hf fun v4 hf => ?_
    refine r_bipush (v := 63) dL_law_30 (by decide) ?_
    refine r_iand dL_law_32 ?_
    refine r_ite hf (fun c5 hf => ?_) (fun c5 hf => ?_)
    · refine r_tabIn 228 dL_law_33 (by rw [c5]; decide) (by rw [c5]; decide) (off := 195) (by rw [c5]; rfl) (by decide) ?_
      refine r_aload_n dL_law_228 rfl ?_
      refine r_aload_n dL_law_229 rfl ?_
      refine r_iload_n dL_law_230 rfl ?_
      refine r_iconst (v := 1) dL_law_231 (by decide) ?_
      refine r_iadd dL_law_232 ?_
      refine r_sld dL_law_233 hf fun v6 hf => ?_
      refine r_aload_n dL_law_234 rfl ?_
      refine r_iload_n dL_law_235 rfl ?_
      refine r_iconst (v := 2) dL_law_236 (by decide) ?_
      refine r_iadd dL_law_237 ?_
      refine r_sld dL_law_238 hf fun v7 hf => ?_
      obtain ⟨v8, hv, hf⟩ := bnd hf
      refine r_callV (lv := 4) dL_law_239 yo_X7_row yi_X7_row ml_L_13 ya_X7_row sh_0 ⟨_, rfl, rfl⟩ (Fits.vl (by decide)) rfl rfl (Nat.le_of_ble_eq_true rfl) (S_X7_row F v6 v7 s1.2  _ hv) ?_
      refine r_aload_n dL_law_242 rfl ?_
      refine r_aload_n dL_law_243 rfl ?_
      refine r_iload_n dL_law_244 rfl ?_
      refine r_iconst (v := 1) dL_law_245 (by decide) ?_
      refine r_iadd dL_law_246 ?_
      refine r_sld dL_law_247 hf fun v9 hf => ?_
      refine r_aload_n dL_law_248 rfl ?_
      refine r_iload_n dL_law_249 rfl ?_
      refine r_iconst (v := 2) dL_law_250 (by decide) ?_
      refine r_iadd dL_law_251 ?_
      refine r_sld dL_law_252 hf fun v10 hf => ?_
      obtain ⟨v11, hv, hf⟩ := bnd hf
      refine r_callV (lv := 3) dL_law_253 yo_X8_row yi_X8_row ml_L_17 ya_X8_row sh_66 ⟨_, rfl, rfl⟩ (Fits.vl (by decide)) rfl rfl (Nat.le_of_ble_eq_true rfl) (S_X8_row F v9 v10 v8.2  _ hv) ?_
      refine r_icmp_eq 1436 dL_law_256 (by decide) hf (fun c12 hf => ?_) (fun c12 hf => ?_)
      · refine r_iincA (v := 6) dL_law_1436 rfl (by decide) (by decide) ?_
        refine r_goto 18 dL_law_1439 (by decide) ?_
        exact ih3 _ hf
      · refine r_iconst (v := 0) dL_law_259 (by decide) ?_
        cases hf
    refine r_ite hf (fun c13 hf => ?_) (fun c13 hf => ?_)
    · refine r_tabIn 261 dL_law_33 (by rw [c13]; decide) (by rw [c13]; decide) (off := 228) (by rw [c13]; rfl) (by decide) ?_
      refine r_aload_n dL_law_261 rfl ?_
      refine r_aload_n dL_law_262 rfl ?_
      refine r_iload_n dL_law_263 rfl ?_
      refine r_iconst (v := 1) dL_law_264 (by decide) ?_
      refine r_iadd dL_law_265 ?_
      refine r_sld dL_law_266 hf fun v14 hf => ?_
      refine r_aload_n dL_law_267 rfl ?_
      refine r_iload_n dL_law_268 rfl ?_
      refine r_iconst (v := 2) dL_law_269 (by decide) ?_
      refine r_iadd dL_law_270 ?_
      refine r_sld dL_law_271 hf fun v15 hf => ?_
      refine r_aload_n dL_law_272 rfl ?_
      refine r_iload_n dL_law_273 rfl ?_
      refine r_iconst (v := 3) dL_law_274 (by decide) ?_
      refine r_iadd dL_law_275 ?_
      refine r_sld dL_law_276 hf fun v16 hf => ?_
      obtain ⟨v17, hv, hf⟩ := bnd hf
      refine r_callV (lv := 4) dL_law_277 yo_X7_lay yi_X7_lay ml_L_18 ya_X7_lay sh_0 ⟨_, rfl, rfl⟩ (Fits.vl (by decide)) rfl rfl (Nat.le_of_ble_eq_true rfl) (S_X7_lay v14 v15 v16 s1.2  _ hv) ?_
      refine r_aload_n dL_law_280 rfl ?_
      refine r_aload_n dL_law_281 rfl ?_
      refine r_iload_n dL_law_282 rfl ?_
      refine r_iconst (v := 1) dL_law_283 (by decide) ?_
      refine r_iadd dL_law_284 ?_
      refine r_sld dL_law_285 hf fun v18 hf => ?_
      refine r_aload_n dL_law_286 rfl ?_
      refine r_iload_n dL_law_287 rfl ?_
      refine r_iconst (v := 2) dL_law_288 (by decide) ?_
      refine r_iadd dL_law_289 ?_
      refine r_sld dL_law_290 hf fun v19 hf => ?_
      refine r_aload_n dL_law_291 rfl ?_
      refine r_iload_n dL_law_292 rfl ?_
      refine r_iconst (v := 3) dL_law_293 (by decide) ?_
      refine r_iadd dL_law_294 ?_
      refine r_sld dL_law_295 hf fun v20 hf => ?_
      obtain ⟨v21, hv, hf⟩ := bnd hf
      refine r_callV (lv := 3) dL_law_296 yo_X8_lay yi_X8_lay ml_L_22 ya_X8_lay sh_66 ⟨_, rfl, rfl⟩ (Fits.vl (by decide)) rfl rfl (Nat.le_of_ble_eq_true rfl) (S_X8_lay v18 v19 v20 v17.2  _ hv) ?_
      refine r_icmp_eq 1436 dL_law_299 (by decide) hf (fun c22 hf => ?_) (fun c22 hf => ?_)
      · refine r_iincA (v := 6) dL_law_1436 rfl (by decide) (by decide) ?_
        refine r_goto 18 dL_law_1439 (by decide) ?_
        exact ih3 _ hf
      · refine r_iconst (v := 0) dL_law_302 (by decide) ?_
        cases hf
    refine r_ite hf (fun c23 hf => ?_) (fun c23 hf => ?_)
    · refine r_tabIn 304 dL_law_33 (by rw [c23]; decide) (by rw [c23]; decide) (off := 271) (by rw [c23]; rfl) (by decide) ?_
      refine r_aload_n dL_law_304 rfl ?_
      refine r_aload_n dL_law_305 rfl ?_
      refine r_iload_n dL_law_306 rfl ?_
      refine r_iconst (v := 1) dL_law_307 (by decide) ?_
      refine r_iadd dL_law_308 ?_
      refine r_sld dL_law_309 hf fun v24 hf => ?_
      refine r_aload_n dL_law_310 rfl ?_
      refine r_iload_n dL_law_311 rfl ?_
      refine r_iconst (v := 2) dL_law_312 (by decide) ?_
      refine r_iadd dL_law_313 ?_
      refine r_sld dL_law_314 hf fun v25 hf => ?_
      obtain ⟨v26, hv, hf⟩ := bnd hf
      refine r_callV (lv := 4) dL_law_315 yo_X7_at yi_X7_at ml_L_23 ya_X7_at sh_0 ⟨_, rfl, rfl⟩ (Fits.vl (by decide)) rfl rfl (Nat.le_of_ble_eq_true rfl) (S_X7_at v24 v25 s1.2  _ hv) ?_
      refine r_aload_n dL_law_318 rfl ?_
      refine r_aload_n dL_law_319 rfl ?_
      refine r_iload_n dL_law_320 rfl ?_
      refine r_iconst (v := 1) dL_law_321 (by decide) ?_
      refine r_iadd dL_law_322 ?_
      refine r_sld dL_law_323 hf fun v27 hf => ?_
      refine r_aload_n dL_law_324 rfl ?_
      refine r_iload_n dL_law_325 rfl ?_
      refine r_iconst (v := 2) dL_law_326 (by decide) ?_
      refine r_iadd dL_law_327 ?_
      refine r_sld dL_law_328 hf fun v28 hf => ?_
      obtain ⟨v29, hv, hf⟩ := bnd hf
      refine r_callV (lv := 3) dL_law_329 yo_X8_at yi_X8_at ml_L_26 ya_X8_at sh_66 ⟨_, rfl, rfl⟩ (Fits.vl (by decide)) rfl rfl (Nat.le_of_ble_eq_true rfl) (S_X8_at v27 v28 v26.2  _ hv) ?_
      refine r_icmp_eq 1436 dL_law_332 (by decide) hf (fun c30 hf => ?_) (fun c30 hf => ?_)
      · refine r_iincA (v := 6) dL_law_1436 rfl (by decide) (by decide) ?_
        refine r_goto 18 dL_law_1439 (by decide) ?_
        exact ih3 _ hf
      · refine r_iconst (v := 0) dL_law_335 (by decide) ?_
        cases hf
    refine r_ite hf (fun c31 hf => ?_) (fun c31 hf => ?_)
    · refine r_tabIn 337 dL_law_33 (by rw [c31]; decide) (by rw [c31]; decide) (off := 304) (by rw [c31]; rfl) (by decide) ?_
      refine r_aload_n dL_law_337 rfl ?_
      refine r_aload_n dL_law_338 rfl ?_
      refine r_iload_n dL_law_339 rfl ?_
      refine r_iconst (v := 1) dL_law_340 (by decide) ?_
      refine r_iadd dL_law_341 ?_
      refine r_sld dL_law_342 hf fun v32 hf => ?_
      obtain ⟨v33, hv, hf⟩ := bnd hf
      refine r_callV (lv := 3) dL_law_343 yo_X7_tear yi_X7_tear ml_L_27 ya_X7_tear sh_0 ⟨_, rfl, rfl⟩ (Fits.vl (by decide)) rfl rfl (Nat.le_of_ble_eq_true rfl) (S_X7_tear v32 s1.2  _ hv) ?_
      refine r_aload_n dL_law_346 rfl ?_
      refine r_aload_n dL_law_347 rfl ?_
      refine r_iload_n dL_law_348 rfl ?_
      refine r_iconst (v := 1) dL_law_349 (by decide) ?_
      refine r_iadd dL_law_350 ?_
      refine r_sld dL_law_351 hf fun v34 hf => ?_
      obtain ⟨v35, hv, hf⟩ := bnd hf
      refine r_callV (lv := 3) dL_law_352 yo_X8_tear yi_X8_tear ml_L_31 ya_X8_tear sh_66 ⟨_, rfl, rfl⟩ (Fits.vl (by decide)) rfl rfl (Nat.le_of_ble_eq_true rfl) (S_X8_tear v34 v33.2  _ hv) ?_
      refine r_icmp_eq 1436 dL_law_355 (by decide) hf (fun c36 hf => ?_) (fun c36 hf => ?_)
      · refine r_iincA (v := 6) dL_law_1436 rfl (by decide) (by decide) ?_
        refine r_goto 18 dL_law_1439 (by decide) ?_
        exact ih3 _ hf
      · refine r_iconst (v := 0) dL_law_358 (by decide) ?_
        cases hf
    refine r_ite hf (fun c37 hf => ?_) (fun c37 hf => ?_)
    · refine r_tabIn 360 dL_law_33 (by rw [c37]; decide) (by rw [c37]; decide) (off := 327) (by rw [c37]; rfl) (by decide) ?_
      refine r_aload_n dL_law_360 rfl ?_
      refine r_aload_n dL_law_361 rfl ?_
      refine r_iload_n dL_law_362 rfl ?_
      refine r_iconst (v := 1) dL_law_363 (by decide) ?_
      refine r_iadd dL_law_364 ?_
      refine r_sld dL_law_365 hf fun v38 hf => ?_
      refine r_aload_n dL_law_366 rfl ?_
      refine r_iload_n dL_law_367 rfl ?_
      refine r_iconst (v := 2) dL_law_368 (by decide) ?_
      refine r_iadd dL_law_369 ?_
      refine r_sld dL_law_370 hf fun v39 hf => ?_
      refine r_aload_n dL_law_371 rfl ?_
      refine r_iload_n dL_law_372 rfl ?_
      refine r_iconst (v := 3) dL_law_373 (by decide) ?_
      refine r_iadd dL_law_374 ?_
      refine r_sld dL_law_375 hf fun v40 hf => ?_
      refine r_aload_n dL_law_376 rfl ?_
      refine r_iload_n dL_law_377 rfl ?_
      refine r_iconst (v := 4) dL_law_378 (by decide) ?_
      refine r_iadd dL_law_379 ?_
      refine r_sld dL_law_380 hf fun v41 hf => ?_
      refine r_aload_n dL_law_381 rfl ?_
      refine r_iload_n dL_law_382 rfl ?_
      refine r_iconst (v := 5) dL_law_383 (by decide) ?_
      refine r_iadd dL_law_384 ?_
      refine r_sld dL_law_385 hf fun v42 hf => ?_
      obtain ⟨v43, hv, hf⟩ := bnd hf
      refine r_callV (lv := 4) dL_law_386 yo_X7_copy yi_X7_copy ml_L_32 ya_X7_copy sh_0 ⟨_, rfl, rfl⟩ (Fits.vl (by decide)) rfl rfl (Nat.le_of_ble_eq_true rfl) (S_X7_copy v38 v39 v40 v41 v42 s1.2  _ hv) ?_
      refine r_aload_n dL_law_389 rfl ?_
      refine r_aload_n dL_law_390 rfl ?_
      refine r_iload_n dL_law_391 rfl ?_
      refine r_iconst (v := 1) dL_law_392 (by decide) ?_
      refine r_iadd dL_law_393 ?_
      refine r_sld dL_law_394 hf fun v44 hf => ?_
      refine r_aload_n dL_law_395 rfl ?_
      refine r_iload_n dL_law_396 rfl ?_
      refine r_iconst (v := 2) dL_law_397 (by decide) ?_
      refine r_iadd dL_law_398 ?_
      refine r_sld dL_law_399 hf fun v45 hf => ?_
      refine r_aload_n dL_law_400 rfl ?_
      refine r_iload_n dL_law_401 rfl ?_
      refine r_iconst (v := 3) dL_law_402 (by decide) ?_
      refine r_iadd dL_law_403 ?_
      refine r_sld dL_law_404 hf fun v46 hf => ?_
      refine r_aload_n dL_law_405 rfl ?_
      refine r_iload_n dL_law_406 rfl ?_
      refine r_iconst (v := 4) dL_law_407 (by decide) ?_
      refine r_iadd dL_law_408 ?_
      refine r_sld dL_law_409 hf fun v47 hf => ?_
      refine r_aload_n dL_law_410 rfl ?_
      refine r_iload_n dL_law_411 rfl ?_
      refine r_iconst (v := 5) dL_law_412 (by decide) ?_
      refine r_iadd dL_law_413 ?_
      refine r_sld dL_law_414 hf fun v48 hf => ?_
      obtain ⟨v49, hv, hf⟩ := bnd hf
      refine r_callV (lv := 3) dL_law_415 yo_X8_copy yi_X8_copy ml_L_36 ya_X8_copy sh_66 ⟨_, rfl, rfl⟩ (Fits.vl (by decide)) rfl rfl (Nat.le_of_ble_eq_true rfl) (S_X8_copy F v44 v45 v46 v47 v48 v43.2  _ hv) ?_
      refine r_icmp_eq 1436 dL_law_418 (by decide) hf (fun c50 hf => ?_) (fun c50 hf => ?_)
      · refine r_iincA (v := 6) dL_law_1436 rfl (by decide) (by decide) ?_
        refine r_goto 18 dL_law_1439 (by decide) ?_
        exact ih3 _ hf
      · refine r_iconst (v := 0) dL_law_421 (by decide) ?_
        cases hf
    refine r_ite hf (fun c51 hf => ?_) (fun c51 hf => ?_)
    · refine r_tabIn 423 dL_law_33 (by rw [c51]; decide) (by rw [c51]; decide) (off := 390) (by rw [c51]; rfl) (by decide) ?_
      refine r_aload_n dL_law_423 rfl ?_
      refine r_aload_n dL_law_424 rfl ?_
      refine r_iload_n dL_law_425 rfl ?_
      refine r_iconst (v := 1) dL_law_426 (by decide) ?_
      refine r_iadd dL_law_427 ?_
      refine r_sld dL_law_428 hf fun v52 hf => ?_
      obtain ⟨v53, hv, hf⟩ := bnd hf
      refine r_callV (lv := 4) dL_law_429 yo_X7_mean yi_X7_mean ml_L_37 ya_X7_mean sh_0 ⟨_, rfl, rfl⟩ (Fits.vl (by decide)) rfl rfl (Nat.le_of_ble_eq_true rfl) (S_X7_mean F v52 s1.2  _ hv) ?_
      refine r_aload_n dL_law_432 rfl ?_
      refine r_aload_n dL_law_433 rfl ?_
      refine r_iload_n dL_law_434 rfl ?_
      refine r_iconst (v := 1) dL_law_435 (by decide) ?_
      refine r_iadd dL_law_436 ?_
      refine r_sld dL_law_437 hf fun v54 hf => ?_
      obtain ⟨v55, hv, hf⟩ := bnd hf
      refine r_callV (lv := 3) dL_law_438 yo_X8_mean yi_X8_mean ml_L_40 ya_X8_mean sh_66 ⟨_, rfl, rfl⟩ (Fits.vl (by decide)) rfl rfl (Nat.le_of_ble_eq_true rfl) (S_X8_mean F v54 v53.2  _ hv) ?_
      refine r_icmp_eq 1436 dL_law_441 (by decide) hf (fun c56 hf => ?_) (fun c56 hf => ?_)
      · refine r_iincA (v := 6) dL_law_1436 rfl (by decide) (by decide) ?_
        refine r_goto 18 dL_law_1439 (by decide) ?_
        exact ih3 _ hf
      · refine r_iconst (v := 0) dL_law_444 (by decide) ?_
        cases hf
    refine r_ite hf (fun c57 hf => ?_) (fun c57 hf => ?_)
    · refine r_tabIn 446 dL_law_33 (by rw [c57]; decide) (by rw [c57]; decide) (off := 413) (by rw [c57]; rfl) (by decide) ?_
      refine r_aload_n dL_law_446 rfl ?_
      refine r_aload_n dL_law_447 rfl ?_
      refine r_iload_n dL_law_448 rfl ?_
      refine r_iconst (v := 1) dL_law_449 (by decide) ?_
      refine r_iadd dL_law_450 ?_
      refine r_sld dL_law_451 hf fun v58 hf => ?_
      refine r_aload_n dL_law_452 rfl ?_
      refine r_iload_n dL_law_453 rfl ?_
      refine r_iconst (v := 2) dL_law_454 (by decide) ?_
      refine r_iadd dL_law_455 ?_
      refine r_sld dL_law_456 hf fun v59 hf => ?_
      obtain ⟨v60, hv, hf⟩ := bnd hf
      refine r_callV (lv := 4) dL_law_457 yo_X7_text yi_X7_text ml_L_41 ya_X7_text sh_0 ⟨_, rfl, rfl⟩ (Fits.vl (by decide)) rfl rfl (Nat.le_of_ble_eq_true rfl) (S_X7_text F v58 v59 s1.2  _ hv) ?_
      refine r_aload_n dL_law_460 rfl ?_
      refine r_aload_n dL_law_461 rfl ?_
      refine r_iload_n dL_law_462 rfl ?_
      refine r_iconst (v := 1) dL_law_463 (by decide) ?_
      refine r_iadd dL_law_464 ?_
      refine r_sld dL_law_465 hf fun v61 hf => ?_
      refine r_aload_n dL_law_466 rfl ?_
      refine r_iload_n dL_law_467 rfl ?_
      refine r_iconst (v := 2) dL_law_468 (by decide) ?_
      refine r_iadd dL_law_469 ?_
      refine r_sld dL_law_470 hf fun v62 hf => ?_
      obtain ⟨v63, hv, hf⟩ := bnd hf
      refine r_callV (lv := 3) dL_law_471 yo_X8_text yi_X8_text ml_L_44 ya_X8_text sh_66 ⟨_, rfl, rfl⟩ (Fits.vl (by decide)) rfl rfl (Nat.le_of_ble_eq_true rfl) (S_X8_text F v61 v62 v60.2  _ hv) ?_
      refine r_icmp_eq 1436 dL_law_474 (by decide) hf (fun c64 hf => ?_) (fun c64 hf => ?_)
      · refine r_iincA (v := 6) dL_law_1436 rfl (by decide) (by decide) ?_
        refine r_goto 18 dL_law_1439 (by decide) ?_
        exact ih3 _ hf
      · refine r_iconst (v := 0) dL_law_477 (by decide) ?_
        cases hf
    refine r_ite hf (fun c65 hf => ?_) (fun c65 hf => ?_)
    · refine r_tabIn 479 dL_law_33 (by rw [c65]; decide) (by rw [c65]; decide) (off := 446) (by rw [c65]; rfl) (by decide) ?_
      refine r_aload_n dL_law_479 rfl ?_
      refine r_aload_n dL_law_480 rfl ?_
      refine r_iload_n dL_law_481 rfl ?_
      refine r_iconst (v := 1) dL_law_482 (by decide) ?_
      refine r_iadd dL_law_483 ?_
      refine r_sld dL_law_484 hf fun v66 hf => ?_
      refine r_aload_n dL_law_485 rfl ?_
      refine r_iload_n dL_law_486 rfl ?_
      refine r_iconst (v := 2) dL_law_487 (by decide) ?_
      refine r_iadd dL_law_488 ?_
      refine r_sld dL_law_489 hf fun v67 hf => ?_
      refine r_aload_n dL_law_490 rfl ?_
      refine r_iload_n dL_law_491 rfl ?_
      refine r_iconst (v := 3) dL_law_492 (by decide) ?_
      refine r_iadd dL_law_493 ?_
      refine r_sld dL_law_494 hf fun v68 hf => ?_
      obtain ⟨v69, hv, hf⟩ := bnd hf
      refine r_callV (lv := 4) dL_law_495 yo_X7_put yi_X7_put ml_L_45 ya_X7_put sh_0 ⟨_, rfl, rfl⟩ (Fits.vl (by decide)) rfl rfl (Nat.le_of_ble_eq_true rfl) (S_X7_put v66 v67 v68 s1.2  _ hv) ?_
      refine r_aload_n dL_law_498 rfl ?_
      refine r_aload_n dL_law_499 rfl ?_
      refine r_iload_n dL_law_500 rfl ?_
      refine r_iconst (v := 1) dL_law_501 (by decide) ?_
      refine r_iadd dL_law_502 ?_
      refine r_sld dL_law_503 hf fun v70 hf => ?_
      refine r_aload_n dL_law_504 rfl ?_
      refine r_iload_n dL_law_505 rfl ?_
      refine r_iconst (v := 2) dL_law_506 (by decide) ?_
      refine r_iadd dL_law_507 ?_
      refine r_sld dL_law_508 hf fun v71 hf => ?_
      refine r_aload_n dL_law_509 rfl ?_
      refine r_iload_n dL_law_510 rfl ?_
      refine r_iconst (v := 3) dL_law_511 (by decide) ?_
      refine r_iadd dL_law_512 ?_
      refine r_sld dL_law_513 hf fun v72 hf => ?_
      obtain ⟨v73, hv, hf⟩ := bnd hf
      refine r_callV (lv := 3) dL_law_514 yo_X8_put yi_X8_put ml_L_48 ya_X8_put sh_66 ⟨_, rfl, rfl⟩ (Fits.vl (by decide)) rfl rfl (Nat.le_of_ble_eq_true rfl) (S_X8_put v70 v71 v72 v69.2  _ hv) ?_
      refine r_icmp_eq 1436 dL_law_517 (by decide) hf (fun c74 hf => ?_) (fun c74 hf => ?_)
      · refine r_iincA (v := 6) dL_law_1436 rfl (by decide) (by decide) ?_
        refine r_goto 18 dL_law_1439 (by decide) ?_
        exact ih3 _ hf
      · refine r_iconst (v := 0) dL_law_520 (by decide) ?_
        cases hf
    refine r_ite hf (fun c75 hf => ?_) (fun c75 hf => ?_)
    · refine r_tabIn 522 dL_law_33 (by rw [c75]; decide) (by rw [c75]; decide) (off := 489) (by rw [c75]; rfl) (by decide) ?_
      refine r_aload_n dL_law_522 rfl ?_
      refine r_aload_n dL_law_523 rfl ?_
      refine r_iload_n dL_law_524 rfl ?_
      refine r_iconst (v := 1) dL_law_525 (by decide) ?_
      refine r_iadd dL_law_526 ?_
      refine r_sld dL_law_527 hf fun v76 hf => ?_
      obtain ⟨v77, hv, hf⟩ := bnd hf
      refine r_callV (lv := 7) dL_law_528 yo_X7_fault yi_X7_fault ml_L_49 ya_X7_fault sh_0 ⟨_, rfl, rfl⟩ (Fits.vl (by decide)) rfl rfl (Nat.le_of_ble_eq_true rfl) (S_X7_fault F v76 s1.2  _ hv) ?_
      refine r_aload_n dL_law_531 rfl ?_
      refine r_aload_n dL_law_532 rfl ?_
      refine r_iload_n dL_law_533 rfl ?_
      refine r_iconst (v := 1) dL_law_534 (by decide) ?_
      refine r_iadd dL_law_535 ?_
      refine r_sld dL_law_536 hf fun v78 hf => ?_
      obtain ⟨v79, hv, hf⟩ := bnd hf
      refine r_callV (lv := 5) dL_law_537 yo_X8_fault yi_X8_fault ml_L_52 ya_X8_fault sh_66 ⟨_, rfl, rfl⟩ (Fits.vl (by decide)) rfl rfl (Nat.le_of_ble_eq_true rfl) (S_X8_fault F v78 v77.2  _ hv) ?_
      refine r_icmp_eq 1436 dL_law_540 (by decide) hf (fun c80 hf => ?_) (fun c80 hf => ?_)
      · refine r_iincA (v := 6) dL_law_1436 rfl (by decide) (by decide) ?_
        refine r_goto 18 dL_law_1439 (by decide) ?_
        exact ih3 _ hf
      · refine r_iconst (v := 0) dL_law_543 (by decide) ?_
        cases hf
    refine r_ite hf (fun c81 hf => ?_) (fun c81 hf => ?_)
    · refine r_tabIn 545 dL_law_33 (by rw [c81]; decide) (by rw [c81]; decide) (off := 512) (by rw [c81]; rfl) (by decide) ?_
      refine r_aload_n dL_law_545 rfl ?_
      refine r_aload_n dL_law_546 rfl ?_
      refine r_iload_n dL_law_547 rfl ?_
      refine r_iconst (v := 1) dL_law_548 (by decide) ?_
      refine r_iadd dL_law_549 ?_
      refine r_sld dL_law_550 hf fun v82 hf => ?_
      obtain ⟨v83, hv, hf⟩ := bnd hf
      refine r_callV (lv := 7) dL_law_551 yo_X7_yard yi_X7_yard ml_L_53 ya_X7_yard sh_0 ⟨_, rfl, rfl⟩ (Fits.vl (by decide)) rfl rfl (Nat.le_of_ble_eq_true rfl) (S_X7_yard F v82 s1.2  _ hv) ?_
      refine r_aload_n dL_law_554 rfl ?_
      refine r_aload_n dL_law_555 rfl ?_
      refine r_iload_n dL_law_556 rfl ?_
      refine r_iconst (v := 1) dL_law_557 (by decide) ?_
      refine r_iadd dL_law_558 ?_
      refine r_sld dL_law_559 hf fun v84 hf => ?_
      obtain ⟨v85, hv, hf⟩ := bnd hf
      refine r_callV (lv := 5) dL_law_560 yo_X8_yard yi_X8_yard ml_L_56 ya_X8_yard sh_66 ⟨_, rfl, rfl⟩ (Fits.vl (by decide)) rfl rfl (Nat.le_of_ble_eq_true rfl) (S_X8_yard F v84 v83.2  _ hv) ?_
      refine r_icmp_eq 1436 dL_law_563 (by decide) hf (fun c86 hf => ?_) (fun c86 hf => ?_)
      · refine r_iincA (v := 6) dL_law_1436 rfl (by decide) (by decide) ?_
        refine r_goto 18 dL_law_1439 (by decide) ?_
        exact ih3 _ hf
      · refine r_iconst (v := 0) dL_law_566 (by decide) ?_
        cases hf
    refine r_ite hf (fun c87 hf => ?_) (fun c87 hf => ?_)
    · refine r_tabIn 568 dL_law_33 (by rw [c87]; decide) (by rw [c87]; decide) (off := 535) (by rw [c87]; rfl) (by decide) ?_
      refine r_aload_n dL_law_568 rfl ?_
      refine r_aload_n dL_law_569 rfl ?_
      refine r_iload_n dL_law_570 rfl ?_
      refine r_iconst (v := 1) dL_law_571 (by decide) ?_
      refine r_iadd dL_law_572 ?_
      refine r_sld dL_law_573 hf fun v88 hf => ?_
      refine r_aload_n dL_law_574 rfl ?_
      refine r_iload_n dL_law_575 rfl ?_
      refine r_iconst (v := 2) dL_law_576 (by decide) ?_
      refine r_iadd dL_law_577 ?_
      refine r_sld dL_law_578 hf fun v89 hf => ?_
      obtain ⟨v90, hv, hf⟩ := bnd hf
      refine r_callV (lv := 3) dL_law_579 yo_X7_man yi_X7_man ml_L_57 ya_X7_man sh_0 ⟨_, rfl, rfl⟩ (Fits.vl (by decide)) rfl rfl (Nat.le_of_ble_eq_true rfl) (S_X7_man F v88 v89 s1.2  _ hv) ?_
      refine r_aload_n dL_law_582 rfl ?_
      refine r_aload_n dL_law_583 rfl ?_
      refine r_iload_n dL_law_584 rfl ?_
      refine r_iconst (v := 1) dL_law_585 (by decide) ?_
      refine r_iadd dL_law_586 ?_
      refine r_sld dL_law_587 hf fun v91 hf => ?_
      refine r_aload_n dL_law_588 rfl ?_
      refine r_iload_n dL_law_589 rfl ?_
      refine r_iconst (v := 2) dL_law_590 (by decide) ?_
      refine r_iadd dL_law_591 ?_
      refine r_sld dL_law_592 hf fun v92 hf => ?_
      obtain ⟨v93, hv, hf⟩ := bnd hf
      refine r_callV (lv := 4) dL_law_593 yo_X8_man yi_X8_man ml_L_60 ya_X8_man sh_66 ⟨_, rfl, rfl⟩ (Fits.vl (by decide)) rfl rfl (Nat.le_of_ble_eq_true rfl) (S_X8_man F v91 v92 v90.2  _ hv) ?_
      refine r_icmp_eq 1436 dL_law_596 (by decide) hf (fun c94 hf => ?_) (fun c94 hf => ?_)
      · refine r_iincA (v := 6) dL_law_1436 rfl (by decide) (by decide) ?_
        refine r_goto 18 dL_law_1439 (by decide) ?_
        exact ih3 _ hf
      · refine r_iconst (v := 0) dL_law_599 (by decide) ?_
        cases hf
    refine r_ite hf (fun c95 hf => ?_) (fun c95 hf => ?_)
    · refine r_tabIn 601 dL_law_33 (by rw [c95]; decide) (by rw [c95]; decide) (off := 568) (by rw [c95]; rfl) (by decide) ?_
      refine r_aload_n dL_law_601 rfl ?_
      refine r_aload_n dL_law_602 rfl ?_
      refine r_iload_n dL_law_603 rfl ?_
      refine r_iconst (v := 1) dL_law_604 (by decide) ?_
      refine r_iadd dL_law_605 ?_
      refine r_sld dL_law_606 hf fun v96 hf => ?_
      refine r_aload_n dL_law_607 rfl ?_
      refine r_iload_n dL_law_608 rfl ?_
      refine r_iconst (v := 2) dL_law_609 (by decide) ?_
      refine r_iadd dL_law_610 ?_
      refine r_sld dL_law_611 hf fun v97 hf => ?_
      obtain ⟨v98, hv, hf⟩ := bnd hf
      refine r_callV (lv := 4) dL_law_612 yo_X7_chain yi_X7_chain ml_L_61 ya_X7_chain sh_0 ⟨_, rfl, rfl⟩ (Fits.vl (by decide)) rfl rfl (Nat.le_of_ble_eq_true rfl) (S_X7_chain v96 v97 s1.2  _ hv) ?_
      refine r_aload_n dL_law_615 rfl ?_
      refine r_aload_n dL_law_616 rfl ?_
      refine r_iload_n dL_law_617 rfl ?_
      refine r_iconst (v := 1) dL_law_618 (by decide) ?_
      refine r_iadd dL_law_619 ?_
      refine r_sld dL_law_620 hf fun v99 hf => ?_
      refine r_aload_n dL_law_621 rfl ?_
      refine r_iload_n dL_law_622 rfl ?_
      refine r_iconst (v := 2) dL_law_623 (by decide) ?_
      refine r_iadd dL_law_624 ?_
      refine r_sld dL_law_625 hf fun v100 hf => ?_
      obtain ⟨v101, hv, hf⟩ := bnd hf
      refine r_callV (lv := 5) dL_law_626 yo_X8_chain yi_X8_chain ml_L_64 ya_X8_chain sh_66 ⟨_, rfl, rfl⟩ (Fits.vl (by decide)) rfl rfl (Nat.le_of_ble_eq_true rfl) (S_X8_chain F v99 v100 v98.2  _ hv) ?_
      refine r_icmp_eq 1436 dL_law_629 (by decide) hf (fun c102 hf => ?_) (fun c102 hf => ?_)
      · refine r_iincA (v := 6) dL_law_1436 rfl (by decide) (by decide) ?_
        refine r_goto 18 dL_law_1439 (by decide) ?_
        exact ih3 _ hf
      · refine r_iconst (v := 0) dL_law_632 (by decide) ?_
        cases hf
    refine r_ite hf (fun c103 hf => ?_) (fun c103 hf => ?_)
    · refine r_tabIn 634 dL_law_33 (by rw [c103]; decide) (by rw [c103]; decide) (off := 601) (by rw [c103]; rfl) (by decide) ?_
      refine r_aload_n dL_law_634 rfl ?_
      refine r_aload_n dL_law_635 rfl ?_
      refine r_iload_n dL_law_636 rfl ?_
      refine r_iconst (v := 1) dL_law_637 (by decide) ?_
      refine r_iadd dL_law_638 ?_
      refine r_sld dL_law_639 hf fun v104 hf => ?_
      refine r_aload_n dL_law_640 rfl ?_
      refine r_iload_n dL_law_641 rfl ?_
      refine r_iconst (v := 2) dL_law_642 (by decide) ?_
      refine r_iadd dL_law_643 ?_
      refine r_sld dL_law_644 hf fun v105 hf => ?_
      obtain ⟨v106, hv, hf⟩ := bnd hf
      refine r_callV (lv := 4) dL_law_645 yo_X7_mark yi_X7_mark ml_L_65 ya_X7_mark sh_0 ⟨_, rfl, rfl⟩ (Fits.vl (by decide)) rfl rfl (Nat.le_of_ble_eq_true rfl) (S_X7_mark F v104 v105 s1.2  _ hv) ?_
      refine r_aload_n dL_law_648 rfl ?_
      refine r_aload_n dL_law_649 rfl ?_
      refine r_iload_n dL_law_650 rfl ?_
      refine r_iconst (v := 1) dL_law_651 (by decide) ?_
      refine r_iadd dL_law_652 ?_
      refine r_sld dL_law_653 hf fun v107 hf => ?_
      refine r_aload_n dL_law_654 rfl ?_
      refine r_iload_n dL_law_655 rfl ?_
      refine r_iconst (v := 2) dL_law_656 (by decide) ?_
      refine r_iadd dL_law_657 ?_
      refine r_sld dL_law_658 hf fun v108 hf => ?_
      obtain ⟨v109, hv, hf⟩ := bnd hf
      refine r_callV (lv := 8) dL_law_659 yo_X8_mark yi_X8_mark ml_L_68 ya_X8_mark sh_66 ⟨_, rfl, rfl⟩ (Fits.vl (by decide)) rfl rfl (Nat.le_of_ble_eq_true rfl) (S_X8_mark F v107 v108 v106.2  _ hv) ?_
      refine r_icmp_eq 1436 dL_law_662 (by decide) hf (fun c110 hf => ?_) (fun c110 hf => ?_)
      · refine r_iincA (v := 6) dL_law_1436 rfl (by decide) (by decide) ?_
        refine r_goto 18 dL_law_1439 (by decide) ?_
        exact ih3 _ hf
      · refine r_iconst (v := 0) dL_law_665 (by decide) ?_
        cases hf
    refine r_ite hf (fun c111 hf => ?_) (fun c111 hf => ?_)
    · refine r_tabIn 667 dL_law_33 (by rw [c111]; decide) (by rw [c111]; decide) (off := 634) (by rw [c111]; rfl) (by decide) ?_
      refine r_aload_n dL_law_667 rfl ?_
      refine r_aload_n dL_law_668 rfl ?_
      refine r_iload_n dL_law_669 rfl ?_
      refine r_iconst (v := 1) dL_law_670 (by decide) ?_
      refine r_iadd dL_law_671 ?_
      refine r_sld dL_law_672 hf fun v112 hf => ?_
      obtain ⟨v113, hv, hf⟩ := bnd hf
      refine r_callV (lv := 4) dL_law_673 yo_X7_tide yi_X7_tide ml_L_69 ya_X7_tide sh_0 ⟨_, rfl, rfl⟩ (Fits.vl (by decide)) rfl rfl (Nat.le_of_ble_eq_true rfl) (S_X7_tide F v112 s1.2  _ hv) ?_
      refine r_aload_n dL_law_676 rfl ?_
      refine r_aload_n dL_law_677 rfl ?_
      refine r_iload_n dL_law_678 rfl ?_
      refine r_iconst (v := 1) dL_law_679 (by decide) ?_
      refine r_iadd dL_law_680 ?_
      refine r_sld dL_law_681 hf fun v114 hf => ?_
      obtain ⟨v115, hv, hf⟩ := bnd hf
      refine r_callV (lv := 2) dL_law_682 yo_X8_tide yi_X8_tide ml_L_72 ya_X8_tide sh_66 ⟨_, rfl, rfl⟩ (Fits.vl (by decide)) rfl rfl (Nat.le_of_ble_eq_true rfl) (S_X8_tide v114 v113.2  _ hv) ?_
      refine r_icmp_eq 1436 dL_law_685 (by decide) hf (fun c116 hf => ?_) (fun c116 hf => ?_)
      · refine r_iincA (v := 6) dL_law_1436 rfl (by decide) (by decide) ?_
        refine r_goto 18 dL_law_1439 (by decide) ?_
        exact ih3 _ hf
      · refine r_iconst (v := 0) dL_law_688 (by decide) ?_
        cases hf
    refine r_ite hf (fun c117 hf => ?_) (fun c117 hf => ?_)
    · refine r_tabIn 690 dL_law_33 (by rw [c117]; decide) (by rw [c117]; decide) (off := 657) (by rw [c117]; rfl) (by decide) ?_
      refine r_aload_n dL_law_690 rfl ?_
      refine r_aload_n dL_law_691 rfl ?_
      refine r_iload_n dL_law_692 rfl ?_
      refine r_iconst (v := 1) dL_law_693 (by decide) ?_
      refine r_iadd dL_law_694 ?_
      refine r_sld dL_law_695 hf fun v118 hf => ?_
      refine r_aload_n dL_law_696 rfl ?_
      refine r_iload_n dL_law_697 rfl ?_
      refine r_iconst (v := 2) dL_law_698 (by decide) ?_
      refine r_iadd dL_law_699 ?_
      refine r_sld dL_law_700 hf fun v119 hf => ?_
      obtain ⟨v120, hv, hf⟩ := bnd hf
      refine r_callV (lv := 4) dL_law_701 yo_X7_open yi_X7_open ml_L_73 ya_X7_open sh_0 ⟨_, rfl, rfl⟩ (Fits.vl (by decide)) rfl rfl (Nat.le_of_ble_eq_true rfl) (S_X7_open F v118 v119 s1.2  _ hv) ?_
      refine r_aload_n dL_law_704 rfl ?_
      refine r_aload_n dL_law_705 rfl ?_
      refine r_iload_n dL_law_706 rfl ?_
      refine r_iconst (v := 1) dL_law_707 (by decide) ?_
      refine r_iadd dL_law_708 ?_
      refine r_sld dL_law_709 hf fun v121 hf => ?_
      refine r_aload_n dL_law_710 rfl ?_
      refine r_iload_n dL_law_711 rfl ?_
      refine r_iconst (v := 2) dL_law_712 (by decide) ?_
      refine r_iadd dL_law_713 ?_
      refine r_sld dL_law_714 hf fun v122 hf => ?_
      obtain ⟨v123, hv, hf⟩ := bnd hf
      refine r_callV (lv := 4) dL_law_715 yo_X8_open yi_X8_open ml_L_76 ya_X8_open sh_66 ⟨_, rfl, rfl⟩ (Fits.vl (by decide)) rfl rfl (Nat.le_of_ble_eq_true rfl) (S_X8_open F v121 v122 v120.2  _ hv) ?_
      refine r_icmp_eq 1436 dL_law_718 (by decide) hf (fun c124 hf => ?_) (fun c124 hf => ?_)
      · refine r_iincA (v := 6) dL_law_1436 rfl (by decide) (by decide) ?_
        refine r_goto 18 dL_law_1439 (by decide) ?_
        exact ih3 _ hf
      · refine r_iconst (v := 0) dL_law_721 (by decide) ?_
        cases hf
    refine r_ite hf (fun c125 hf => ?_) (fun c125 hf => ?_)
    · refine r_tabIn 723 dL_law_33 (by rw [c125]; decide) (by rw [c125]; decide) (off := 690) (by rw [c125]; rfl) (by decide) ?_
      refine r_aload_n dL_law_723 rfl ?_
      refine r_aload_n dL_law_724 rfl ?_
      refine r_iload_n dL_law_725 rfl ?_
      refine r_iconst (v := 1) dL_law_726 (by decide) ?_
      refine r_iadd dL_law_727 ?_
      refine r_sld dL_law_728 hf fun v126 hf => ?_
      refine r_aload_n dL_law_729 rfl ?_
      refine r_iload_n dL_law_730 rfl ?_
      refine r_iconst (v := 2) dL_law_731 (by decide) ?_
      refine r_iadd dL_law_732 ?_
      refine r_sld dL_law_733 hf fun v127 hf => ?_
      obtain ⟨v128, hv, hf⟩ := bnd hf
      refine r_callV (lv := 3) dL_law_734 yo_X7_step yi_X7_step ml_L_77 ya_X7_step sh_0 ⟨_, rfl, rfl⟩ (Fits.vl (by decide)) rfl rfl (Nat.le_of_ble_eq_true rfl) (S_X7_step F v126 v127 s1.2  _ hv) ?_
      refine r_aload_n dL_law_737 rfl ?_
      refine r_aload_n dL_law_738 rfl ?_
      refine r_iload_n dL_law_739 rfl ?_
      refine r_iconst (v := 1) dL_law_740 (by decide) ?_
      refine r_iadd dL_law_741 ?_
      refine r_sld dL_law_742 hf fun v129 hf => ?_
      refine r_aload_n dL_law_743 rfl ?_
      refine r_iload_n dL_law_744 rfl ?_
      refine r_iconst (v := 2) dL_law_745 (by decide) ?_
      refine r_iadd dL_law_746 ?_
      refine r_sld dL_law_747 hf fun v130 hf => ?_
      obtain ⟨v131, hv, hf⟩ := bnd hf
      refine r_callV (lv := 7) dL_law_748 yo_X8_step yi_X8_step ml_L_80 ya_X8_step sh_66 ⟨_, rfl, rfl⟩ (Fits.vl (by decide)) rfl rfl (Nat.le_of_ble_eq_true rfl) (S_X8_step F v129 v130 v128.2  _ hv) ?_
      refine r_icmp_eq 1436 dL_law_751 (by decide) hf (fun c132 hf => ?_) (fun c132 hf => ?_)
      · refine r_iincA (v := 6) dL_law_1436 rfl (by decide) (by decide) ?_
        refine r_goto 18 dL_law_1439 (by decide) ?_
        exact ih3 _ hf
      · refine r_iconst (v := 0) dL_law_754 (by decide) ?_
        cases hf
    refine r_ite hf (fun c133 hf => ?_) (fun c133 hf => ?_)
    · refine r_tabIn 756 dL_law_33 (by rw [c133]; decide) (by rw [c133]; decide) (off := 723) (by rw [c133]; rfl) (by decide) ?_
      refine r_aload_n dL_law_756 rfl ?_
      refine r_aload_n dL_law_757 rfl ?_
      refine r_iload_n dL_law_758 rfl ?_
      refine r_iconst (v := 1) dL_law_759 (by decide) ?_
      refine r_iadd dL_law_760 ?_
      refine r_sld dL_law_761 hf fun v134 hf => ?_
      obtain ⟨v135, hv, hf⟩ := bnd hf
      refine r_callV (lv := 4) dL_law_762 yo_X7_can yi_X7_can ml_L_81 ya_X7_can sh_0 ⟨_, rfl, rfl⟩ (Fits.vl (by decide)) rfl rfl (Nat.le_of_ble_eq_true rfl) (S_X7_can F v134 s1.2  _ hv) ?_
      refine r_aload_n dL_law_765 rfl ?_
      refine r_aload_n dL_law_766 rfl ?_
      refine r_iload_n dL_law_767 rfl ?_
      refine r_iconst (v := 1) dL_law_768 (by decide) ?_
      refine r_iadd dL_law_769 ?_
      refine r_sld dL_law_770 hf fun v136 hf => ?_
      obtain ⟨v137, hv, hf⟩ := bnd hf
      refine r_callV (lv := 8) dL_law_771 yo_X8_can yi_X8_can ml_L_84 ya_X8_can sh_66 ⟨_, rfl, rfl⟩ (Fits.vl (by decide)) rfl rfl (Nat.le_of_ble_eq_true rfl) (S_X8_can F v136 s1.2  _ hv) ?_
      refine r_icmp_eq 1436 dL_law_774 (by decide) hf (fun c138 hf => ?_) (fun c138 hf => ?_)
      · refine r_iincA (v := 6) dL_law_1436 rfl (by decide) (by decide) ?_
        refine r_goto 18 dL_law_1439 (by decide) ?_
        exact ih3 _ hf
      · refine r_iconst (v := 0) dL_law_777 (by decide) ?_
        cases hf
    refine r_ite hf (fun c139 hf => ?_) (fun c139 hf => ?_)
    · refine r_tabIn 779 dL_law_33 (by rw [c139]; decide) (by rw [c139]; decide) (off := 746) (by rw [c139]; rfl) (by decide) ?_
      refine r_aload_n dL_law_779 rfl ?_
      refine r_aload_n dL_law_780 rfl ?_
      refine r_iload_n dL_law_781 rfl ?_
      refine r_iconst (v := 1) dL_law_782 (by decide) ?_
      refine r_iadd dL_law_783 ?_
      refine r_sld dL_law_784 hf fun v140 hf => ?_
      obtain ⟨v141, hv, hf⟩ := bnd hf
      refine r_callV (lv := 2) dL_law_785 yo_X7_undo yi_X7_undo ml_L_85 ya_X7_undo sh_0 ⟨_, rfl, rfl⟩ (Fits.vl (by decide)) rfl rfl (Nat.le_of_ble_eq_true rfl) (S_X7_undo v140 s1.2  _ hv) ?_
      refine r_aload_n dL_law_788 rfl ?_
      refine r_aload_n dL_law_789 rfl ?_
      refine r_iload_n dL_law_790 rfl ?_
      refine r_iconst (v := 1) dL_law_791 (by decide) ?_
      refine r_iadd dL_law_792 ?_
      refine r_sld dL_law_793 hf fun v142 hf => ?_
      obtain ⟨v143, hv, hf⟩ := bnd hf
      refine r_callV (lv := 2) dL_law_794 yo_X8_undo yi_X8_undo ml_L_88 ya_X8_undo sh_66 ⟨_, rfl, rfl⟩ (Fits.vl (by decide)) rfl rfl (Nat.le_of_ble_eq_true rfl) (S_X8_undo F v142 v141.2  _ hv) ?_
      refine r_icmp_eq 1436 dL_law_797 (by decide) hf (fun c144 hf => ?_) (fun c144 hf => ?_)
      · refine r_iincA (v := 6) dL_law_1436 rfl (by decide) (by decide) ?_
        refine r_goto 18 dL_law_1439 (by decide) ?_
        exact ih3 _ hf
      · refine r_iconst (v := 0) dL_law_800 (by decide) ?_
        cases hf
    refine r_ite hf (fun c145 hf => ?_) (fun c145 hf => ?_)
    · refine r_tabIn 802 dL_law_33 (by rw [c145]; decide) (by rw [c145]; decide) (off := 769) (by rw [c145]; rfl) (by decide) ?_
      refine r_aload_n dL_law_802 rfl ?_
      refine r_aload_n dL_law_803 rfl ?_
      refine r_iload_n dL_law_804 rfl ?_
      refine r_iconst (v := 1) dL_law_805 (by decide) ?_
      refine r_iadd dL_law_806 ?_
      refine r_sld dL_law_807 hf fun v146 hf => ?_
      obtain ⟨v147, hv, hf⟩ := bnd hf
      refine r_callV (lv := 2) dL_law_808 yo_X7_who yi_X7_who ml_L_89 ya_X7_who sh_0 ⟨_, rfl, rfl⟩ (Fits.vl (by decide)) rfl rfl (Nat.le_of_ble_eq_true rfl) (S_X7_who F v146 s1.2  _ hv) ?_
      refine r_aload_n dL_law_811 rfl ?_
      refine r_aload_n dL_law_812 rfl ?_
      refine r_iload_n dL_law_813 rfl ?_
      refine r_iconst (v := 1) dL_law_814 (by decide) ?_
      refine r_iadd dL_law_815 ?_
      refine r_sld dL_law_816 hf fun v148 hf => ?_
      obtain ⟨v149, hv, hf⟩ := bnd hf
      refine r_callV (lv := 3) dL_law_817 yo_X8_who yi_X8_who ml_L_92 ya_X8_who sh_66 ⟨_, rfl, rfl⟩ (Fits.vl (by decide)) rfl rfl (Nat.le_of_ble_eq_true rfl) (S_X8_who F v148 s1.2  _ hv) ?_
      refine r_icmp_eq 1436 dL_law_820 (by decide) hf (fun c150 hf => ?_) (fun c150 hf => ?_)
      · refine r_iincA (v := 6) dL_law_1436 rfl (by decide) (by decide) ?_
        refine r_goto 18 dL_law_1439 (by decide) ?_
        exact ih3 _ hf
      · refine r_iconst (v := 0) dL_law_823 (by decide) ?_
        cases hf
    refine r_ite hf (fun c151 hf => ?_) (fun c151 hf => ?_)
    · refine r_tabIn 825 dL_law_33 (by rw [c151]; decide) (by rw [c151]; decide) (off := 792) (by rw [c151]; rfl) (by decide) ?_
      refine r_aload_n dL_law_825 rfl ?_
      refine r_aload_n dL_law_826 rfl ?_
      refine r_iload_n dL_law_827 rfl ?_
      refine r_iconst (v := 1) dL_law_828 (by decide) ?_
      refine r_iadd dL_law_829 ?_
      refine r_sld dL_law_830 hf fun v152 hf => ?_
      obtain ⟨v153, hv, hf⟩ := bnd hf
      refine r_callV (lv := 2) dL_law_831 yo_X7_keep yi_X7_keep ml_L_93 ya_X7_keep sh_0 ⟨_, rfl, rfl⟩ (Fits.vl (by decide)) rfl rfl (Nat.le_of_ble_eq_true rfl) (S_X7_keep v152 s1.2  _ hv) ?_
      refine r_aload_n dL_law_834 rfl ?_
      refine r_aload_n dL_law_835 rfl ?_
      refine r_iload_n dL_law_836 rfl ?_
      refine r_iconst (v := 1) dL_law_837 (by decide) ?_
      refine r_iadd dL_law_838 ?_
      refine r_sld dL_law_839 hf fun v154 hf => ?_
      obtain ⟨v155, hv, hf⟩ := bnd hf
      refine r_callV (lv := 2) dL_law_840 yo_X8_keep yi_X8_keep ml_L_96 ya_X8_keep sh_66 ⟨_, rfl, rfl⟩ (Fits.vl (by decide)) rfl rfl (Nat.le_of_ble_eq_true rfl) (S_X8_keep F v154 v153.2  _ hv) ?_
      refine r_icmp_eq 1436 dL_law_843 (by decide) hf (fun c156 hf => ?_) (fun c156 hf => ?_)
      · refine r_iincA (v := 6) dL_law_1436 rfl (by decide) (by decide) ?_
        refine r_goto 18 dL_law_1439 (by decide) ?_
        exact ih3 _ hf
      · refine r_iconst (v := 0) dL_law_846 (by decide) ?_
        cases hf
    refine r_ite hf (fun c157 hf => ?_) (fun c157 hf => ?_)
    · refine r_tabIn 848 dL_law_33 (by rw [c157]; decide) (by rw [c157]; decide) (off := 815) (by rw [c157]; rfl) (by decide) ?_
      refine r_aload_n dL_law_848 rfl ?_
      refine r_aload_n dL_law_849 rfl ?_
      refine r_iload_n dL_law_850 rfl ?_
      refine r_iconst (v := 1) dL_law_851 (by decide) ?_
      refine r_iadd dL_law_852 ?_
      refine r_sld dL_law_853 hf fun v158 hf => ?_
      obtain ⟨v159, hv, hf⟩ := bnd hf
      refine r_callV (lv := 4) dL_law_854 yo_X7_on yi_X7_on ml_L_97 ya_X7_on sh_0 ⟨_, rfl, rfl⟩ (Fits.vl (by decide)) rfl rfl (Nat.le_of_ble_eq_true rfl) (S_X7_on F v158 s1.2  _ hv) ?_
      refine r_aload_n dL_law_857 rfl ?_
      refine r_aload_n dL_law_858 rfl ?_
      refine r_iload_n dL_law_859 rfl ?_
      refine r_iconst (v := 1) dL_law_860 (by decide) ?_
      refine r_iadd dL_law_861 ?_
      refine r_sld dL_law_862 hf fun v160 hf => ?_
      obtain ⟨v161, hv, hf⟩ := bnd hf
      refine r_callV (lv := 2) dL_law_863 yo_X8_on yi_X8_on ml_L_100 ya_X8_on sh_66 ⟨_, rfl, rfl⟩ (Fits.vl (by decide)) rfl rfl (Nat.le_of_ble_eq_true rfl) (S_X8_on F v160 v159.2  _ hv) ?_
      refine r_icmp_eq 1436 dL_law_866 (by decide) hf (fun c162 hf => ?_) (fun c162 hf => ?_)
      · refine r_iincA (v := 6) dL_law_1436 rfl (by decide) (by decide) ?_
        refine r_goto 18 dL_law_1439 (by decide) ?_
        exact ih3 _ hf
      · refine r_iconst (v := 0) dL_law_869 (by decide) ?_
        cases hf
    refine r_ite hf (fun c163 hf => ?_) (fun c163 hf => ?_)
    · refine r_tabIn 871 dL_law_33 (by rw [c163]; decide) (by rw [c163]; decide) (off := 838) (by rw [c163]; rfl) (by decide) ?_
      refine r_aload_n dL_law_871 rfl ?_
      refine r_aload_n dL_law_872 rfl ?_
      refine r_iload_n dL_law_873 rfl ?_
      refine r_iconst (v := 1) dL_law_874 (by decide) ?_
      refine r_iadd dL_law_875 ?_
      refine r_sld dL_law_876 hf fun v164 hf => ?_
      obtain ⟨v165, hv, hf⟩ := bnd hf
      refine r_callV (lv := 7) dL_law_877 yo_X7_near yi_X7_near ml_L_101 ya_X7_near sh_0 ⟨_, rfl, rfl⟩ (Fits.vl (by decide)) rfl rfl (Nat.le_of_ble_eq_true rfl) (S_X7_near F v164 s1.2  _ hv) ?_
      refine r_aload_n dL_law_880 rfl ?_
      refine r_aload_n dL_law_881 rfl ?_
      refine r_iload_n dL_law_882 rfl ?_
      refine r_iconst (v := 1) dL_law_883 (by decide) ?_
      refine r_iadd dL_law_884 ?_
      refine r_sld dL_law_885 hf fun v166 hf => ?_
      obtain ⟨v167, hv, hf⟩ := bnd hf
      refine r_callV (lv := 10) dL_law_886 yo_X8_near yi_X8_near ml_L_104 ya_X8_near sh_66 ⟨_, rfl, rfl⟩ (Fits.vl (by decide)) rfl rfl (Nat.le_of_ble_eq_true rfl) (S_X8_near F v166 v165.2  _ hv) ?_
      refine r_icmp_eq 1436 dL_law_889 (by decide) hf (fun c168 hf => ?_) (fun c168 hf => ?_)
      · refine r_iincA (v := 6) dL_law_1436 rfl (by decide) (by decide) ?_
        refine r_goto 18 dL_law_1439 (by decide) ?_
        exact ih3 _ hf
      · refine r_iconst (v := 0) dL_law_892 (by decide) ?_
        cases hf
    refine r_ite hf (fun c169 hf => ?_) (fun c169 hf => ?_)
    · refine r_tabIn 894 dL_law_33 (by rw [c169]; decide) (by rw [c169]; decide) (off := 861) (by rw [c169]; rfl) (by decide) ?_
      refine r_aload_n dL_law_894 rfl ?_
      refine r_aload_n dL_law_895 rfl ?_
      refine r_iload_n dL_law_896 rfl ?_
      refine r_iconst (v := 1) dL_law_897 (by decide) ?_
      refine r_iadd dL_law_898 ?_
      refine r_sld dL_law_899 hf fun v170 hf => ?_
      refine r_aload_n dL_law_900 rfl ?_
      refine r_iload_n dL_law_901 rfl ?_
      refine r_iconst (v := 2) dL_law_902 (by decide) ?_
      refine r_iadd dL_law_903 ?_
      refine r_sld dL_law_904 hf fun v171 hf => ?_
      obtain ⟨v172, hv, hf⟩ := bnd hf
      refine r_callV (lv := 7) dL_law_905 yo_X7_path yi_X7_path ml_L_105 ya_X7_path sh_0 ⟨_, rfl, rfl⟩ (Fits.vl (by decide)) rfl rfl (Nat.le_of_ble_eq_true rfl) (S_X7_path F v170 v171 s1.2  _ hv) ?_
      refine r_aload_n dL_law_908 rfl ?_
      refine r_aload_n dL_law_909 rfl ?_
      refine r_iload_n dL_law_910 rfl ?_
      refine r_iconst (v := 1) dL_law_911 (by decide) ?_
      refine r_iadd dL_law_912 ?_
      refine r_sld dL_law_913 hf fun v173 hf => ?_
      refine r_aload_n dL_law_914 rfl ?_
      refine r_iload_n dL_law_915 rfl ?_
      refine r_iconst (v := 2) dL_law_916 (by decide) ?_
      refine r_iadd dL_law_917 ?_
      refine r_sld dL_law_918 hf fun v174 hf => ?_
      obtain ⟨v175, hv, hf⟩ := bnd hf
      refine r_callV (lv := 10) dL_law_919 yo_X8_path yi_X8_path ml_L_108 ya_X8_path sh_66 ⟨_, rfl, rfl⟩ (Fits.vl (by decide)) rfl rfl (Nat.le_of_ble_eq_true rfl) (S_X8_path F v173 v174 v172.2  _ hv) ?_
      refine r_icmp_eq 1436 dL_law_922 (by decide) hf (fun c176 hf => ?_) (fun c176 hf => ?_)
      · refine r_iincA (v := 6) dL_law_1436 rfl (by decide) (by decide) ?_
        refine r_goto 18 dL_law_1439 (by decide) ?_
        exact ih3 _ hf
      · refine r_iconst (v := 0) dL_law_925 (by decide) ?_
        cases hf
    refine r_ite hf (fun c177 hf => ?_) (fun c177 hf => ?_)
    · refine r_tabIn 927 dL_law_33 (by rw [c177]; decide) (by rw [c177]; decide) (off := 894) (by rw [c177]; rfl) (by decide) ?_
      refine r_aload_n dL_law_927 rfl ?_
      obtain ⟨v178, hv, hf⟩ := bnd hf
      refine r_callV (lv := 6) dL_law_928 yo_X7_reach yi_X7_reach ml_L_109 ya_X7_reach sh_0 ⟨_, rfl, rfl⟩ (Fits.vl (by decide)) rfl rfl (Nat.le_of_ble_eq_true rfl) (S_X7_reach F s1.2  _ hv) ?_
      refine r_aload_n dL_law_931 rfl ?_
      obtain ⟨v179, hv, hf⟩ := bnd hf
      refine r_callV (lv := 9) dL_law_932 yo_X8_reach yi_X8_reach ml_L_113 ya_X8_reach sh_66 ⟨_, rfl, rfl⟩ (Fits.vl (by decide)) rfl rfl (Nat.le_of_ble_eq_true rfl) (S_X8_reach F v178.2  _ hv) ?_
      refine r_icmp_eq 1436 dL_law_935 (by decide) hf (fun c180 hf => ?_) (fun c180 hf => ?_)
      · refine r_iincA (v := 6) dL_law_1436 rfl (by decide) (by decide) ?_
        refine r_goto 18 dL_law_1439 (by decide) ?_
        exact ih3 _ hf
      · refine r_iconst (v := 0) dL_law_938 (by decide) ?_
        cases hf
    refine r_ite hf (fun c181 hf => ?_) (fun c181 hf => ?_)
    · refine r_tabIn 940 dL_law_33 (by rw [c181]; decide) (by rw [c181]; decide) (off := 907) (by rw [c181]; rfl) (by decide) ?_
      refine r_aload_n dL_law_940 rfl ?_
      refine r_aload_n dL_law_941 rfl ?_
      refine r_iload_n dL_law_942 rfl ?_
      refine r_iconst (v := 1) dL_law_943 (by decide) ?_
      refine r_iadd dL_law_944 ?_
      refine r_sld dL_law_945 hf fun v182 hf => ?_
      obtain ⟨v183, hv, hf⟩ := bnd hf
      refine r_callV (lv := 6) dL_law_946 yo_X7_where yi_X7_where ml_L_114 ya_X7_where sh_0 ⟨_, rfl, rfl⟩ (Fits.vl (by decide)) rfl rfl (Nat.le_of_ble_eq_true rfl) (S_X7_where F v182 s1.2  _ hv) ?_
      refine r_aload_n dL_law_949 rfl ?_
      refine r_aload_n dL_law_950 rfl ?_
      refine r_iload_n dL_law_951 rfl ?_
      refine r_iconst (v := 1) dL_law_952 (by decide) ?_
      refine r_iadd dL_law_953 ?_
      refine r_sld dL_law_954 hf fun v184 hf => ?_
      obtain ⟨v185, hv, hf⟩ := bnd hf
      refine r_callV (lv := 9) dL_law_955 yo_X8_where yi_X8_where ml_L_117 ya_X8_where sh_66 ⟨_, rfl, rfl⟩ (Fits.vl (by decide)) rfl rfl (Nat.le_of_ble_eq_true rfl) (S_X8_where F v184 v183.2  _ hv) ?_
      refine r_icmp_eq 1436 dL_law_958 (by decide) hf (fun c186 hf => ?_) (fun c186 hf => ?_)
      · refine r_iincA (v := 6) dL_law_1436 rfl (by decide) (by decide) ?_
        refine r_goto 18 dL_law_1439 (by decide) ?_
        exact ih3 _ hf
      · refine r_iconst (v := 0) dL_law_961 (by decide) ?_
        cases hf
    refine r_ite hf (fun c187 hf => ?_) (fun c187 hf => ?_)
    · refine r_tabIn 963 dL_law_33 (by rw [c187]; decide) (by rw [c187]; decide) (off := 930) (by rw [c187]; rfl) (by decide) ?_
      refine r_aload_n dL_law_963 rfl ?_
      refine r_aload_n dL_law_964 rfl ?_
      refine r_iload_n dL_law_965 rfl ?_
      refine r_iconst (v := 1) dL_law_966 (by decide) ?_
      refine r_iadd dL_law_967 ?_
      refine r_sld dL_law_968 hf fun v188 hf => ?_
      refine r_aload_n dL_law_969 rfl ?_
      refine r_iload_n dL_law_970 rfl ?_
      refine r_iconst (v := 2) dL_law_971 (by decide) ?_
      refine r_iadd dL_law_972 ?_
      refine r_sld dL_law_973 hf fun v189 hf => ?_
      obtain ⟨v190, hv, hf⟩ := bnd hf
      refine r_callV (lv := 6) dL_law_974 yo_X7_meet yi_X7_meet ml_L_118 ya_X7_meet sh_0 ⟨_, rfl, rfl⟩ (Fits.vl (by decide)) rfl rfl (Nat.le_of_ble_eq_true rfl) (S_X7_meet F v188 v189 s1.2  _ hv) ?_
      refine r_aload_n dL_law_977 rfl ?_
      refine r_aload_n dL_law_978 rfl ?_
      refine r_iload_n dL_law_979 rfl ?_
      refine r_iconst (v := 1) dL_law_980 (by decide) ?_
      refine r_iadd dL_law_981 ?_
      refine r_sld dL_law_982 hf fun v191 hf => ?_
      refine r_aload_n dL_law_983 rfl ?_
      refine r_iload_n dL_law_984 rfl ?_
      refine r_iconst (v := 2) dL_law_985 (by decide) ?_
      refine r_iadd dL_law_986 ?_
      refine r_sld dL_law_987 hf fun v192 hf => ?_
      obtain ⟨v193, hv, hf⟩ := bnd hf
      refine r_callV (lv := 9) dL_law_988 yo_X8_meet yi_X8_meet ml_L_121 ya_X8_meet sh_66 ⟨_, rfl, rfl⟩ (Fits.vl (by decide)) rfl rfl (Nat.le_of_ble_eq_true rfl) (S_X8_meet F v191 v192 v190.2  _ hv) ?_
      refine r_icmp_eq 1436 dL_law_991 (by decide) hf (fun c194 hf => ?_) (fun c194 hf => ?_)
      · refine r_iincA (v := 6) dL_law_1436 rfl (by decide) (by decide) ?_
        refine r_goto 18 dL_law_1439 (by decide) ?_
        exact ih3 _ hf
      · refine r_iconst (v := 0) dL_law_994 (by decide) ?_
        cases hf
    refine r_ite hf (fun c195 hf => ?_) (fun c195 hf => ?_)
    · refine r_tabIn 996 dL_law_33 (by rw [c195]; decide) (by rw [c195]; decide) (off := 963) (by rw [c195]; rfl) (by decide) ?_
      refine r_aload_n dL_law_996 rfl ?_
      refine r_aload_n dL_law_997 rfl ?_
      refine r_iload_n dL_law_998 rfl ?_
      refine r_iconst (v := 1) dL_law_999 (by decide) ?_
      refine r_iadd dL_law_1000 ?_
      refine r_sld dL_law_1001 hf fun v196 hf => ?_
      obtain ⟨v197, hv, hf⟩ := bnd hf
      refine r_callV (lv := 6) dL_law_1002 yo_X7_window yi_X7_window ml_L_122 ya_X7_window sh_0 ⟨_, rfl, rfl⟩ (Fits.vl (by decide)) rfl rfl (Nat.le_of_ble_eq_true rfl) (S_X7_window F v196 s1.2  _ hv) ?_
      refine r_aload_n dL_law_1005 rfl ?_
      refine r_aload_n dL_law_1006 rfl ?_
      refine r_iload_n dL_law_1007 rfl ?_
      refine r_iconst (v := 1) dL_law_1008 (by decide) ?_
      refine r_iadd dL_law_1009 ?_
      refine r_sld dL_law_1010 hf fun v198 hf => ?_
      obtain ⟨v199, hv, hf⟩ := bnd hf
      refine r_callV (lv := 9) dL_law_1011 yo_X8_window yi_X8_window ml_L_125 ya_X8_window sh_66 ⟨_, rfl, rfl⟩ (Fits.vl (by decide)) rfl rfl (Nat.le_of_ble_eq_true rfl) (S_X8_window F v198 v197.2  _ hv) ?_
      refine r_icmp_eq 1436 dL_law_1014 (by decide) hf (fun c200 hf => ?_) (fun c200 hf => ?_)
      · refine r_iincA (v := 6) dL_law_1436 rfl (by decide) (by decide) ?_
        refine r_goto 18 dL_law_1439 (by decide) ?_
        exact ih3 _ hf
      · refine r_iconst (v := 0) dL_law_1017 (by decide) ?_
        cases hf
    refine r_ite hf (fun c201 hf => ?_) (fun c201 hf => ?_)
    · refine r_tabIn 1019 dL_law_33 (by rw [c201]; decide) (by rw [c201]; decide) (off := 986) (by rw [c201]; rfl) (by decide) ?_
      refine r_aload_n dL_law_1019 rfl ?_
      refine r_aload_n dL_law_1020 rfl ?_
      refine r_iload_n dL_law_1021 rfl ?_
      refine r_iconst (v := 1) dL_law_1022 (by decide) ?_
      refine r_iadd dL_law_1023 ?_
      refine r_sld dL_law_1024 hf fun v202 hf => ?_
      refine r_aload_n dL_law_1025 rfl ?_
      refine r_iload_n dL_law_1026 rfl ?_
      refine r_iconst (v := 2) dL_law_1027 (by decide) ?_
      refine r_iadd dL_law_1028 ?_
      refine r_sld dL_law_1029 hf fun v203 hf => ?_
      obtain ⟨v204, hv, hf⟩ := bnd hf
      refine r_callV (lv := 6) dL_law_1030 yo_X7_comes yi_X7_comes ml_L_126 ya_X7_comes sh_0 ⟨_, rfl, rfl⟩ (Fits.vl (by decide)) rfl rfl (Nat.le_of_ble_eq_true rfl) (S_X7_comes F v202 v203 s1.2  _ hv) ?_
      refine r_aload_n dL_law_1033 rfl ?_
      refine r_aload_n dL_law_1034 rfl ?_
      refine r_iload_n dL_law_1035 rfl ?_
      refine r_iconst (v := 1) dL_law_1036 (by decide) ?_
      refine r_iadd dL_law_1037 ?_
      refine r_sld dL_law_1038 hf fun v205 hf => ?_
      refine r_aload_n dL_law_1039 rfl ?_
      refine r_iload_n dL_law_1040 rfl ?_
      refine r_iconst (v := 2) dL_law_1041 (by decide) ?_
      refine r_iadd dL_law_1042 ?_
      refine r_sld dL_law_1043 hf fun v206 hf => ?_
      obtain ⟨v207, hv, hf⟩ := bnd hf
      refine r_callV (lv := 8) dL_law_1044 yo_X8_comes yi_X8_comes ml_L_129 ya_X8_comes sh_66 ⟨_, rfl, rfl⟩ (Fits.vl (by decide)) rfl rfl (Nat.le_of_ble_eq_true rfl) (S_X8_comes F v205 v206 v204.2  _ hv) ?_
      refine r_icmp_eq 1436 dL_law_1047 (by decide) hf (fun c208 hf => ?_) (fun c208 hf => ?_)
      · refine r_iincA (v := 6) dL_law_1436 rfl (by decide) (by decide) ?_
        refine r_goto 18 dL_law_1439 (by decide) ?_
        exact ih3 _ hf
      · refine r_iconst (v := 0) dL_law_1050 (by decide) ?_
        cases hf
    refine r_ite hf (fun c209 hf => ?_) (fun c209 hf => ?_)
    · refine r_tabIn 1052 dL_law_33 (by rw [c209]; decide) (by rw [c209]; decide) (off := 1019) (by rw [c209]; rfl) (by decide) ?_
      refine r_aload_n dL_law_1052 rfl ?_
      refine r_aload_n dL_law_1053 rfl ?_
      refine r_iload_n dL_law_1054 rfl ?_
      refine r_iconst (v := 1) dL_law_1055 (by decide) ?_
      refine r_iadd dL_law_1056 ?_
      refine r_sld dL_law_1057 hf fun v210 hf => ?_
      obtain ⟨v211, hv, hf⟩ := bnd hf
      refine r_callV (lv := 7) dL_law_1058 yo_X7_fetch yi_X7_fetch ml_L_130 ya_X7_fetch sh_0 ⟨_, rfl, rfl⟩ (Fits.vl (by decide)) rfl rfl (Nat.le_of_ble_eq_true rfl) (S_X7_fetch F v210 s1.2  _ hv) ?_
      refine r_aload_n dL_law_1061 rfl ?_
      refine r_aload_n dL_law_1062 rfl ?_
      refine r_iload_n dL_law_1063 rfl ?_
      refine r_iconst (v := 1) dL_law_1064 (by decide) ?_
      refine r_iadd dL_law_1065 ?_
      refine r_sld dL_law_1066 hf fun v212 hf => ?_
      obtain ⟨v213, hv, hf⟩ := bnd hf
      refine r_callV (lv := 9) dL_law_1067 yo_X8_fetch yi_X8_fetch ml_L_133 ya_X8_fetch sh_66 ⟨_, rfl, rfl⟩ (Fits.vl (by decide)) rfl rfl (Nat.le_of_ble_eq_true rfl) (S_X8_fetch F v212 v211.2  _ hv) ?_
      refine r_icmp_eq 1436 dL_law_1070 (by decide) hf (fun c214 hf => ?_) (fun c214 hf => ?_)
      · refine r_iincA (v := 6) dL_law_1436 rfl (by decide) (by decide) ?_
        refine r_goto 18 dL_law_1439 (by decide) ?_
        exact ih3 _ hf
      · refine r_iconst (v := 0) dL_law_1073 (by decide) ?_
        cases hf
    refine r_ite hf (fun c215 hf => ?_) (fun c215 hf => ?_)
    · refine r_tabIn 1075 dL_law_33 (by rw [c215]; decide) (by rw [c215]; decide) (off := 1042) (by rw [c215]; rfl) (by decide) ?_
      refine r_aload_n dL_law_1075 rfl ?_
      refine r_aload_n dL_law_1076 rfl ?_
      refine r_iload_n dL_law_1077 rfl ?_
      refine r_iconst (v := 1) dL_law_1078 (by decide) ?_
      refine r_iadd dL_law_1079 ?_
      refine r_sld dL_law_1080 hf fun v216 hf => ?_
      refine r_aload_n dL_law_1081 rfl ?_
      refine r_iload_n dL_law_1082 rfl ?_
      refine r_iconst (v := 2) dL_law_1083 (by decide) ?_
      refine r_iadd dL_law_1084 ?_
      refine r_sld dL_law_1085 hf fun v217 hf => ?_
      obtain ⟨v218, hv, hf⟩ := bnd hf
      refine r_callV (lv := 15) dL_law_1086 yo_X7_order yi_X7_order ml_L_134 ya_X7_order sh_0 ⟨_, rfl, rfl⟩ (Fits.vl (by decide)) rfl rfl (Nat.le_of_ble_eq_true rfl) (S_X7_order F v216 v217 s1.2  _ hv) ?_
      refine r_aload_n dL_law_1089 rfl ?_
      refine r_aload_n dL_law_1090 rfl ?_
      refine r_iload_n dL_law_1091 rfl ?_
      refine r_iconst (v := 1) dL_law_1092 (by decide) ?_
      refine r_iadd dL_law_1093 ?_
      refine r_sld dL_law_1094 hf fun v219 hf => ?_
      refine r_aload_n dL_law_1095 rfl ?_
      refine r_iload_n dL_law_1096 rfl ?_
      refine r_iconst (v := 2) dL_law_1097 (by decide) ?_
      refine r_iadd dL_law_1098 ?_
      refine r_sld dL_law_1099 hf fun v220 hf => ?_
      obtain ⟨v221, hv, hf⟩ := bnd hf
      refine r_callV (lv := 17) dL_law_1100 yo_X8_order yi_X8_order ml_L_137 ya_X8_order sh_66 ⟨_, rfl, rfl⟩ (Fits.vl (by decide)) rfl rfl (Nat.le_of_ble_eq_true rfl) (S_X8_order F v219 v220 v218.2  _ hv) ?_
      refine r_icmp_eq 1436 dL_law_1103 (by decide) hf (fun c222 hf => ?_) (fun c222 hf => ?_)
      · refine r_iincA (v := 6) dL_law_1436 rfl (by decide) (by decide) ?_
        refine r_goto 18 dL_law_1439 (by decide) ?_
        exact ih3 _ hf
      · refine r_iconst (v := 0) dL_law_1106 (by decide) ?_
        cases hf
    refine r_ite hf (fun c223 hf => ?_) (fun c223 hf => ?_)
    · refine r_tabIn 1108 dL_law_33 (by rw [c223]; decide) (by rw [c223]; decide) (off := 1075) (by rw [c223]; rfl) (by decide) ?_
      refine r_aload_n dL_law_1108 rfl ?_
      refine r_aload_n dL_law_1109 rfl ?_
      refine r_iload_n dL_law_1110 rfl ?_
      refine r_iconst (v := 1) dL_law_1111 (by decide) ?_
      refine r_iadd dL_law_1112 ?_
      refine r_sld dL_law_1113 hf fun v224 hf => ?_
      obtain ⟨v225, hv, hf⟩ := bnd hf
      refine r_callV (lv := 6) dL_law_1114 yo_X7_keys yi_X7_keys ml_L_138 ya_X7_keys sh_0 ⟨_, rfl, rfl⟩ (Fits.vl (by decide)) rfl rfl (Nat.le_of_ble_eq_true rfl) (S_X7_keys F v224 s1.2  _ hv) ?_
      refine r_aload_n dL_law_1117 rfl ?_
      refine r_aload_n dL_law_1118 rfl ?_
      refine r_iload_n dL_law_1119 rfl ?_
      refine r_iconst (v := 1) dL_law_1120 (by decide) ?_
      refine r_iadd dL_law_1121 ?_
      refine r_sld dL_law_1122 hf fun v226 hf => ?_
      obtain ⟨v227, hv, hf⟩ := bnd hf
      refine r_callV (lv := 3) dL_law_1123 yo_X8_keys yi_X8_keys ml_L_141 ya_X8_keys sh_66 ⟨_, rfl, rfl⟩ (Fits.vl (by decide)) rfl rfl (Nat.le_of_ble_eq_true rfl) (S_X8_keys F v226 v225.2  _ hv) ?_
      refine r_icmp_eq 1436 dL_law_1126 (by decide) hf (fun c228 hf => ?_) (fun c228 hf => ?_)
      · refine r_iincA (v := 6) dL_law_1436 rfl (by decide) (by decide) ?_
        refine r_goto 18 dL_law_1439 (by decide) ?_
        exact ih3 _ hf
      · refine r_iconst (v := 0) dL_law_1129 (by decide) ?_
        cases hf
    refine r_ite hf (fun c229 hf => ?_) (fun c229 hf => ?_)
    · refine r_tabIn 1131 dL_law_33 (by rw [c229]; decide) (by rw [c229]; decide) (off := 1098) (by rw [c229]; rfl) (by decide) ?_
      refine r_aload_n dL_law_1131 rfl ?_
      refine r_aload_n dL_law_1132 rfl ?_
      refine r_iload_n dL_law_1133 rfl ?_
      refine r_iconst (v := 1) dL_law_1134 (by decide) ?_
      refine r_iadd dL_law_1135 ?_
      refine r_sld dL_law_1136 hf fun v230 hf => ?_
      refine r_aload_n dL_law_1137 rfl ?_
      refine r_iload_n dL_law_1138 rfl ?_
      refine r_iconst (v := 2) dL_law_1139 (by decide) ?_
      refine r_iadd dL_law_1140 ?_
      refine r_sld dL_law_1141 hf fun v231 hf => ?_
      obtain ⟨v232, hv, hf⟩ := bnd hf
      refine r_callV (lv := 6) dL_law_1142 yo_X7_free yi_X7_free ml_L_142 ya_X7_free sh_0 ⟨_, rfl, rfl⟩ (Fits.vl (by decide)) rfl rfl (Nat.le_of_ble_eq_true rfl) (S_X7_free F v230 v231 s1.2  _ hv) ?_
      refine r_aload_n dL_law_1145 rfl ?_
      refine r_aload_n dL_law_1146 rfl ?_
      refine r_iload_n dL_law_1147 rfl ?_
      refine r_iconst (v := 1) dL_law_1148 (by decide) ?_
      refine r_iadd dL_law_1149 ?_
      refine r_sld dL_law_1150 hf fun v233 hf => ?_
      refine r_aload_n dL_law_1151 rfl ?_
      refine r_iload_n dL_law_1152 rfl ?_
      refine r_iconst (v := 2) dL_law_1153 (by decide) ?_
      refine r_iadd dL_law_1154 ?_
      refine r_sld dL_law_1155 hf fun v234 hf => ?_
      obtain ⟨v235, hv, hf⟩ := bnd hf
      refine r_callV (lv := 3) dL_law_1156 yo_X8_free yi_X8_free ml_L_145 ya_X8_free sh_66 ⟨_, rfl, rfl⟩ (Fits.vl (by decide)) rfl rfl (Nat.le_of_ble_eq_true rfl) (S_X8_free F v233 v234 v232.2  _ hv) ?_
      refine r_icmp_eq 1436 dL_law_1159 (by decide) hf (fun c236 hf => ?_) (fun c236 hf => ?_)
      · refine r_iincA (v := 6) dL_law_1436 rfl (by decide) (by decide) ?_
        refine r_goto 18 dL_law_1439 (by decide) ?_
        exact ih3 _ hf
      · refine r_iconst (v := 0) dL_law_1162 (by decide) ?_
        cases hf
    refine r_ite hf (fun c237 hf => ?_) (fun c237 hf => ?_)
    · refine r_tabIn 1164 dL_law_33 (by rw [c237]; decide) (by rw [c237]; decide) (off := 1131) (by rw [c237]; rfl) (by decide) ?_
      refine r_aload_n dL_law_1164 rfl ?_
      refine r_aload_n dL_law_1165 rfl ?_
      refine r_iload_n dL_law_1166 rfl ?_
      refine r_iconst (v := 1) dL_law_1167 (by decide) ?_
      refine r_iadd dL_law_1168 ?_
      refine r_sld dL_law_1169 hf fun v238 hf => ?_
      obtain ⟨v239, hv, hf⟩ := bnd hf
      refine r_callV (lv := 5) dL_law_1170 yo_X7_filed yi_X7_filed ml_L_146 ya_X7_filed sh_0 ⟨_, rfl, rfl⟩ (Fits.vl (by decide)) rfl rfl (Nat.le_of_ble_eq_true rfl) (S_X7_filed F v238 s1.2  _ hv) ?_
      refine r_aload_n dL_law_1173 rfl ?_
      refine r_aload_n dL_law_1174 rfl ?_
      refine r_iload_n dL_law_1175 rfl ?_
      refine r_iconst (v := 1) dL_law_1176 (by decide) ?_
      refine r_iadd dL_law_1177 ?_
      refine r_sld dL_law_1178 hf fun v240 hf => ?_
      obtain ⟨v241, hv, hf⟩ := bnd hf
      refine r_callV (lv := 5) dL_law_1179 yo_X8_filed yi_X8_filed ml_L_149 ya_X8_filed sh_66 ⟨_, rfl, rfl⟩ (Fits.vl (by decide)) rfl rfl (Nat.le_of_ble_eq_true rfl) (S_X8_filed F v240 v239.2  _ hv) ?_
      refine r_icmp_eq 1436 dL_law_1182 (by decide) hf (fun c242 hf => ?_) (fun c242 hf => ?_)
      · refine r_iincA (v := 6) dL_law_1436 rfl (by decide) (by decide) ?_
        refine r_goto 18 dL_law_1439 (by decide) ?_
        exact ih3 _ hf
      · refine r_iconst (v := 0) dL_law_1185 (by decide) ?_
        cases hf
    refine r_ite hf (fun c243 hf => ?_) (fun c243 hf => ?_)
    · refine r_tabIn 1187 dL_law_33 (by rw [c243]; decide) (by rw [c243]; decide) (off := 1154) (by rw [c243]; rfl) (by decide) ?_
      refine r_aload_n dL_law_1187 rfl ?_
      refine r_aload_n dL_law_1188 rfl ?_
      refine r_iload_n dL_law_1189 rfl ?_
      refine r_iconst (v := 1) dL_law_1190 (by decide) ?_
      refine r_iadd dL_law_1191 ?_
      refine r_sld dL_law_1192 hf fun v244 hf => ?_
      obtain ⟨v245, hv, hf⟩ := bnd hf
      refine r_callV (lv := 4) dL_law_1193 yo_X7_judge yi_X7_judge ml_L_150 ya_X7_judge sh_0 ⟨_, rfl, rfl⟩ (Fits.vl (by decide)) rfl rfl (Nat.le_of_ble_eq_true rfl) (S_X7_judge F v244 s1.2  _ hv) ?_
      refine r_aload_n dL_law_1196 rfl ?_
      refine r_aload_n dL_law_1197 rfl ?_
      refine r_iload_n dL_law_1198 rfl ?_
      refine r_iconst (v := 1) dL_law_1199 (by decide) ?_
      refine r_iadd dL_law_1200 ?_
      refine r_sld dL_law_1201 hf fun v246 hf => ?_
      obtain ⟨v247, hv, hf⟩ := bnd hf
      refine r_callV (lv := 7) dL_law_1202 yo_X8_judge yi_X8_judge ml_L_153 ya_X8_judge sh_66 ⟨_, rfl, rfl⟩ (Fits.vl (by decide)) rfl rfl (Nat.le_of_ble_eq_true rfl) (S_X8_judge F v246 v245.2  _ hv) ?_
      refine r_icmp_eq 1436 dL_law_1205 (by decide) hf (fun c248 hf => ?_) (fun c248 hf => ?_)
      · refine r_iincA (v := 6) dL_law_1436 rfl (by decide) (by decide) ?_
        refine r_goto 18 dL_law_1439 (by decide) ?_
        exact ih3 _ hf
      · refine r_iconst (v := 0) dL_law_1208 (by decide) ?_
        cases hf
    refine r_ite hf (fun c249 hf => ?_) (fun c249 hf => ?_)
    · refine r_tabIn 1210 dL_law_33 (by rw [c249]; decide) (by rw [c249]; decide) (off := 1177) (by rw [c249]; rfl) (by decide) ?_
      refine r_aload_n dL_law_1210 rfl ?_
      refine r_aload_n dL_law_1211 rfl ?_
      refine r_iload_n dL_law_1212 rfl ?_
      refine r_iconst (v := 1) dL_law_1213 (by decide) ?_
      refine r_iadd dL_law_1214 ?_
      refine r_sld dL_law_1215 hf fun v250 hf => ?_
      refine r_aload_n dL_law_1216 rfl ?_
      refine r_iload_n dL_law_1217 rfl ?_
      refine r_iconst (v := 2) dL_law_1218 (by decide) ?_
      refine r_iadd dL_law_1219 ?_
      refine r_sld dL_law_1220 hf fun v251 hf => ?_
      obtain ⟨v252, hv, hf⟩ := bnd hf
      refine r_callV (lv := 2) dL_law_1221 yo_X7_quarrel yi_X7_quarrel ml_L_154 ya_X7_quarrel sh_0 ⟨_, rfl, rfl⟩ (Fits.vl (by decide)) rfl rfl (Nat.le_of_ble_eq_true rfl) (S_X7_quarrel v250 v251 s1.2  _ hv) ?_
      refine r_aload_n dL_law_1224 rfl ?_
      refine r_aload_n dL_law_1225 rfl ?_
      refine r_iload_n dL_law_1226 rfl ?_
      refine r_iconst (v := 1) dL_law_1227 (by decide) ?_
      refine r_iadd dL_law_1228 ?_
      refine r_sld dL_law_1229 hf fun v253 hf => ?_
      refine r_aload_n dL_law_1230 rfl ?_
      refine r_iload_n dL_law_1231 rfl ?_
      refine r_iconst (v := 2) dL_law_1232 (by decide) ?_
      refine r_iadd dL_law_1233 ?_
      refine r_sld dL_law_1234 hf fun v254 hf => ?_
      obtain ⟨v255, hv, hf⟩ := bnd hf
      refine r_callV (lv := 3) dL_law_1235 yo_X8_quarrel yi_X8_quarrel ml_L_157 ya_X8_quarrel sh_66 ⟨_, rfl, rfl⟩ (Fits.vl (by decide)) rfl rfl (Nat.le_of_ble_eq_true rfl) (S_X8_quarrel v253 v254 v252.2  _ hv) ?_
      refine r_icmp_eq 1436 dL_law_1238 (by decide) hf (fun c256 hf => ?_) (fun c256 hf => ?_)
      · refine r_iincA (v := 6) dL_law_1436 rfl (by decide) (by decide) ?_
        refine r_goto 18 dL_law_1439 (by decide) ?_
        exact ih3 _ hf
      · refine r_iconst (v := 0) dL_law_1241 (by decide) ?_
        cases hf
    refine r_ite hf (fun c257 hf => ?_) (fun c257 hf => ?_)
    · refine r_tabIn 1243 dL_law_33 (by rw [c257]; decide) (by rw [c257]; decide) (off := 1210) (by rw [c257]; rfl) (by decide) ?_
      refine r_aload_n dL_law_1243 rfl ?_
      refine r_aload_n dL_law_1244 rfl ?_
      refine r_iload_n dL_law_1245 rfl ?_
      refine r_iconst (v := 1) dL_law_1246 (by decide) ?_
      refine r_iadd dL_law_1247 ?_
      refine r_sld dL_law_1248 hf fun v258 hf => ?_
      obtain ⟨v259, hv, hf⟩ := bnd hf
      refine r_callV (lv := 1) dL_law_1249 yo_X7_peace yi_X7_peace ml_L_158 ya_X7_peace sh_0 ⟨_, rfl, rfl⟩ (Fits.vl (by decide)) rfl rfl (Nat.le_of_ble_eq_true rfl) (S_X7_peace v258 s1.2  _ hv) ?_
      refine r_aload_n dL_law_1252 rfl ?_
      refine r_aload_n dL_law_1253 rfl ?_
      refine r_iload_n dL_law_1254 rfl ?_
      refine r_iconst (v := 1) dL_law_1255 (by decide) ?_
      refine r_iadd dL_law_1256 ?_
      refine r_sld dL_law_1257 hf fun v260 hf => ?_
      obtain ⟨v261, hv, hf⟩ := bnd hf
      refine r_callV (lv := 2) dL_law_1258 yo_X8_peace yi_X8_peace ml_L_161 ya_X8_peace sh_66 ⟨_, rfl, rfl⟩ (Fits.vl (by decide)) rfl rfl (Nat.le_of_ble_eq_true rfl) (S_X8_peace v260 v259.2  _ hv) ?_
      refine r_icmp_eq 1436 dL_law_1261 (by decide) hf (fun c262 hf => ?_) (fun c262 hf => ?_)
      · refine r_iincA (v := 6) dL_law_1436 rfl (by decide) (by decide) ?_
        refine r_goto 18 dL_law_1439 (by decide) ?_
        exact ih3 _ hf
      · refine r_iconst (v := 0) dL_law_1264 (by decide) ?_
        cases hf
    refine r_ite hf (fun c263 hf => ?_) (fun c263 hf => ?_)
    · refine r_tabIn 1266 dL_law_33 (by rw [c263]; decide) (by rw [c263]; decide) (off := 1233) (by rw [c263]; rfl) (by decide) ?_
      refine r_aload_n dL_law_1266 rfl ?_
      refine r_aload_n dL_law_1267 rfl ?_
      refine r_iload_n dL_law_1268 rfl ?_
      refine r_iconst (v := 1) dL_law_1269 (by decide) ?_
      refine r_iadd dL_law_1270 ?_
      refine r_sld dL_law_1271 hf fun v264 hf => ?_
      obtain ⟨v265, hv, hf⟩ := bnd hf
      refine r_callV (lv := 4) dL_law_1272 yo_X7_easter yi_X7_easter ml_L_162 ya_X7_easter sh_0 ⟨_, rfl, rfl⟩ (Fits.vl (by decide)) rfl rfl (Nat.le_of_ble_eq_true rfl) (S_X7_easter F v264 s1.2  _ hv) ?_
      refine r_aload_n dL_law_1275 rfl ?_
      refine r_aload_n dL_law_1276 rfl ?_
      refine r_iload_n dL_law_1277 rfl ?_
      refine r_iconst (v := 1) dL_law_1278 (by decide) ?_
      refine r_iadd dL_law_1279 ?_
      refine r_sld dL_law_1280 hf fun v266 hf => ?_
      obtain ⟨v267, hv, hf⟩ := bnd hf
      refine r_callV (lv := 11) dL_law_1281 yo_X8_easter yi_X8_easter ml_L_165 ya_X8_easter sh_66 ⟨_, rfl, rfl⟩ (Fits.vl (by decide)) rfl rfl (Nat.le_of_ble_eq_true rfl) (S_X8_easter F v266 v265.2  _ hv) ?_
      refine r_icmp_eq 1436 dL_law_1284 (by decide) hf (fun c268 hf => ?_) (fun c268 hf => ?_)
      · refine r_iincA (v := 6) dL_law_1436 rfl (by decide) (by decide) ?_
        refine r_goto 18 dL_law_1439 (by decide) ?_
        exact ih3 _ hf
      · refine r_iconst (v := 0) dL_law_1287 (by decide) ?_
        cases hf
    refine r_ite hf (fun c269 hf => ?_) (fun c269 hf => ?_)
    · refine r_tabIn 1289 dL_law_33 (by rw [c269]; decide) (by rw [c269]; decide) (off := 1256) (by rw [c269]; rfl) (by decide) ?_
      refine r_aload_n dL_law_1289 rfl ?_
      refine r_aload_n dL_law_1290 rfl ?_
      refine r_iload_n dL_law_1291 rfl ?_
      refine r_iconst (v := 1) dL_law_1292 (by decide) ?_
      refine r_iadd dL_law_1293 ?_
      refine r_sld dL_law_1294 hf fun v270 hf => ?_
      refine r_aload_n dL_law_1295 rfl ?_
      refine r_iload_n dL_law_1296 rfl ?_
      refine r_iconst (v := 2) dL_law_1297 (by decide) ?_
      refine r_iadd dL_law_1298 ?_
      refine r_sld dL_law_1299 hf fun v271 hf => ?_
      obtain ⟨v272, hv, hf⟩ := bnd hf
      refine r_callV (lv := 3) dL_law_1300 yo_X7_lots yi_X7_lots ml_L_166 ya_X7_lots sh_0 ⟨_, rfl, rfl⟩ (Fits.vl (by decide)) rfl rfl (Nat.le_of_ble_eq_true rfl) (S_X7_lots F v270 v271 s1.2  _ hv) ?_
      refine r_aload_n dL_law_1303 rfl ?_
      refine r_aload_n dL_law_1304 rfl ?_
      refine r_iload_n dL_law_1305 rfl ?_
      refine r_iconst (v := 1) dL_law_1306 (by decide) ?_
      refine r_iadd dL_law_1307 ?_
      refine r_sld dL_law_1308 hf fun v273 hf => ?_
      refine r_aload_n dL_law_1309 rfl ?_
      refine r_iload_n dL_law_1310 rfl ?_
      refine r_iconst (v := 2) dL_law_1311 (by decide) ?_
      refine r_iadd dL_law_1312 ?_
      refine r_sld dL_law_1313 hf fun v274 hf => ?_
      obtain ⟨v275, hv, hf⟩ := bnd hf
      refine r_callV (lv := 7) dL_law_1314 yo_X8_lots yi_X8_lots ml_L_169 ya_X8_lots sh_66 ⟨_, rfl, rfl⟩ (Fits.vl (by decide)) rfl rfl (Nat.le_of_ble_eq_true rfl) (S_X8_lots F v273 v274 v272.2  _ hv) ?_
      refine r_icmp_eq 1436 dL_law_1317 (by decide) hf (fun c276 hf => ?_) (fun c276 hf => ?_)
      · refine r_iincA (v := 6) dL_law_1436 rfl (by decide) (by decide) ?_
        refine r_goto 18 dL_law_1439 (by decide) ?_
        exact ih3 _ hf
      · refine r_iconst (v := 0) dL_law_1320 (by decide) ?_
        cases hf
    refine r_ite hf (fun c277 hf => ?_) (fun c277 hf => ?_)
    · refine r_tabIn 1322 dL_law_33 (by rw [c277]; decide) (by rw [c277]; decide) (off := 1289) (by rw [c277]; rfl) (by decide) ?_
      refine r_aload_n dL_law_1322 rfl ?_
      obtain ⟨v278, hv, hf⟩ := bnd hf
      refine r_callV (lv := 1) dL_law_1323 yo_X7_asked yi_X7_asked ml_L_170 ya_X7_asked sh_0 ⟨_, rfl, rfl⟩ (Fits.vl (by decide)) rfl rfl (Nat.le_of_ble_eq_true rfl) (S_X7_asked  s1.2  _ hv) ?_
      refine r_aload_n dL_law_1326 rfl ?_
      obtain ⟨v279, hv, hf⟩ := bnd hf
      refine r_callV (lv := 1) dL_law_1327 yo_X8_asked yi_X8_asked ml_L_173 ya_X8_asked sh_66 ⟨_, rfl, rfl⟩ (Fits.vl (by decide)) rfl rfl (Nat.le_of_ble_eq_true rfl) (S_X8_asked  s1.2  _ hv) ?_
      refine r_icmp_eq 1436 dL_law_1330 (by decide) hf (fun c280 hf => ?_) (fun c280 hf => ?_)
      · refine r_iincA (v := 6) dL_law_1436 rfl (by decide) (by decide) ?_
        refine r_goto 18 dL_law_1439 (by decide) ?_
        exact ih3 _ hf
      · refine r_iconst (v := 0) dL_law_1333 (by decide) ?_
        cases hf
    refine r_ite hf (fun c281 hf => ?_) (fun c281 hf => ?_)
    · refine r_tabIn 1335 dL_law_33 (by rw [c281]; decide) (by rw [c281]; decide) (off := 1302) (by rw [c281]; rfl) (by decide) ?_
      refine r_aload_n dL_law_1335 rfl ?_
      obtain ⟨v282, hv, hf⟩ := bnd hf
      refine r_callV (lv := 6) dL_law_1336 yo_X7_upper yi_X7_upper ml_L_174 ya_X7_upper sh_0 ⟨_, rfl, rfl⟩ (Fits.vl (by decide)) rfl rfl (Nat.le_of_ble_eq_true rfl) (S_X7_upper F s1.2  _ hv) ?_
      refine r_aload_n dL_law_1339 rfl ?_
      obtain ⟨v283, hv, hf⟩ := bnd hf
      refine r_callV (lv := 10) dL_law_1340 yo_X8_upper yi_X8_upper ml_L_178 ya_X8_upper sh_66 ⟨_, rfl, rfl⟩ (Fits.vl (by decide)) rfl rfl (Nat.le_of_ble_eq_true rfl) (S_X8_upper F s1.2  _ hv) ?_
      refine r_lcmp dL_law_1343 ?_
      refine r_if_eq 1436 dL_law_1344 (by decide) hf (fun c284 hf => ?_) (fun c284 hf => ?_)
      · refine r_iincA (v := 6) dL_law_1436 rfl (by decide) (by decide) ?_
        refine r_goto 18 dL_law_1439 (by decide) ?_
        exact ih3 _ hf
      · refine r_iconst (v := 0) dL_law_1347 (by decide) ?_
        cases hf
    refine r_ite hf (fun c285 hf => ?_) (fun c285 hf => ?_)
    · refine r_tabIn 1349 dL_law_33 (by rw [c285]; decide) (by rw [c285]; decide) (off := 1316) (by rw [c285]; rfl) (by decide) ?_
      refine r_aload_n dL_law_1349 rfl ?_
      obtain ⟨v286, hv, hf⟩ := bnd hf
      refine r_callV (lv := 6) dL_law_1350 yo_X7_lower yi_X7_lower ml_L_179 ya_X7_lower sh_0 ⟨_, rfl, rfl⟩ (Fits.vl (by decide)) rfl rfl (Nat.le_of_ble_eq_true rfl) (S_X7_lower F s1.2  _ hv) ?_
      refine r_aload_n dL_law_1353 rfl ?_
      obtain ⟨v287, hv, hf⟩ := bnd hf
      refine r_callV (lv := 10) dL_law_1354 yo_X8_lower yi_X8_lower ml_L_182 ya_X8_lower sh_66 ⟨_, rfl, rfl⟩ (Fits.vl (by decide)) rfl rfl (Nat.le_of_ble_eq_true rfl) (S_X8_lower F s1.2  _ hv) ?_
      refine r_lcmp dL_law_1357 ?_
      refine r_if_eq 1436 dL_law_1358 (by decide) hf (fun c288 hf => ?_) (fun c288 hf => ?_)
      · refine r_iincA (v := 6) dL_law_1436 rfl (by decide) (by decide) ?_
        refine r_goto 18 dL_law_1439 (by decide) ?_
        exact ih3 _ hf
      · refine r_iconst (v := 0) dL_law_1361 (by decide) ?_
        cases hf
    refine r_ite hf (fun c289 hf => ?_) (fun c289 hf => ?_)
    · refine r_tabIn 1363 dL_law_33 (by rw [c289]; decide) (by rw [c289]; decide) (off := 1330) (by rw [c289]; rfl) (by decide) ?_
      refine r_aload_n dL_law_1363 rfl ?_
      refine r_aload_n dL_law_1364 rfl ?_
      refine r_iload_n dL_law_1365 rfl ?_
      refine r_iconst (v := 1) dL_law_1366 (by decide) ?_
      refine r_iadd dL_law_1367 ?_
      refine r_sld dL_law_1368 hf fun v290 hf => ?_
      obtain ⟨v291, hv, hf⟩ := bnd hf
      refine r_callV (lv := 3) dL_law_1369 yo_X7_count yi_X7_count ml_L_183 ya_X7_count sh_0 ⟨_, rfl, rfl⟩ (Fits.vl (by decide)) rfl rfl (Nat.le_of_ble_eq_true rfl) (S_X7_count F v290 s1.2  _ hv) ?_
      refine r_aload_n dL_law_1372 rfl ?_
      refine r_aload_n dL_law_1373 rfl ?_
      refine r_iload_n dL_law_1374 rfl ?_
      refine r_iconst (v := 1) dL_law_1375 (by decide) ?_
      refine r_iadd dL_law_1376 ?_
      refine r_sld dL_law_1377 hf fun v292 hf => ?_
      obtain ⟨v293, hv, hf⟩ := bnd hf
      refine r_callV (lv := 3) dL_law_1378 yo_X8_count yi_X8_count ml_L_186 ya_X8_count sh_66 ⟨_, rfl, rfl⟩ (Fits.vl (by decide)) rfl rfl (Nat.le_of_ble_eq_true rfl) (S_X8_count F v292 s1.2  _ hv) ?_
      refine r_icmp_eq 1436 dL_law_1381 (by decide) hf (fun c294 hf => ?_) (fun c294 hf => ?_)
      · refine r_iincA (v := 6) dL_law_1436 rfl (by decide) (by decide) ?_
        refine r_goto 18 dL_law_1439 (by decide) ?_
        exact ih3 _ hf
      · refine r_iconst (v := 0) dL_law_1384 (by decide) ?_
        cases hf
    refine r_ite hf (fun c295 hf => ?_) (fun c295 hf => ?_)
    · refine r_tabIn 1386 dL_law_33 (by rw [c295]; decide) (by rw [c295]; decide) (off := 1353) (by rw [c295]; rfl) (by decide) ?_
      refine r_aload_n dL_law_1386 rfl ?_
      obtain ⟨v296, hv, hf⟩ := bnd hf
      refine r_callV (lv := 1) dL_law_1387 yo_X7_finding yi_X7_finding ml_L_187 ya_X7_finding sh_0 ⟨_, rfl, rfl⟩ (Fits.vl (by decide)) rfl rfl (Nat.le_of_ble_eq_true rfl) (S_X7_finding  s1.2  _ hv) ?_
      refine r_aload_n dL_law_1390 rfl ?_
      obtain ⟨v297, hv, hf⟩ := bnd hf
      refine r_callV (lv := 1) dL_law_1391 yo_X8_finding yi_X8_finding ml_L_190 ya_X8_finding sh_66 ⟨_, rfl, rfl⟩ (Fits.vl (by decide)) rfl rfl (Nat.le_of_ble_eq_true rfl) (S_X8_finding  s1.2  _ hv) ?_
      refine r_icmp_eq 1436 dL_law_1394 (by decide) hf (fun c298 hf => ?_) (fun c298 hf => ?_)
      · refine r_iincA (v := 6) dL_law_1436 rfl (by decide) (by decide) ?_
        refine r_goto 18 dL_law_1439 (by decide) ?_
        exact ih3 _ hf
      · refine r_iconst (v := 0) dL_law_1397 (by decide) ?_
        cases hf
    refine r_ite hf (fun c299 hf => ?_) (fun c299 hf => ?_)
    · refine r_tabIn 1399 dL_law_33 (by rw [c299]; decide) (by rw [c299]; decide) (off := 1366) (by rw [c299]; rfl) (by decide) ?_
      refine r_aload_n dL_law_1399 rfl ?_
      refine r_aload_n dL_law_1400 rfl ?_
      refine r_iload_n dL_law_1401 rfl ?_
      refine r_iconst (v := 1) dL_law_1402 (by decide) ?_
      refine r_iadd dL_law_1403 ?_
      refine r_sld dL_law_1404 hf fun v300 hf => ?_
      obtain ⟨v301, hv, hf⟩ := bnd hf
      refine r_callV (lv := 1) dL_law_1405 yo_X7_findings yi_X7_findings ml_L_191 ya_X7_findings sh_0 ⟨_, rfl, rfl⟩ (Fits.vl (by decide)) rfl rfl (Nat.le_of_ble_eq_true rfl) (S_X7_findings v300 s1.2  _ hv) ?_
      refine r_aload_n dL_law_1408 rfl ?_
      refine r_aload_n dL_law_1409 rfl ?_
      refine r_iload_n dL_law_1410 rfl ?_
      refine r_iconst (v := 1) dL_law_1411 (by decide) ?_
      refine r_iadd dL_law_1412 ?_
      refine r_sld dL_law_1413 hf fun v302 hf => ?_
      obtain ⟨v303, hv, hf⟩ := bnd hf
      refine r_callV (lv := 2) dL_law_1414 yo_X8_findings yi_X8_findings ml_L_194 ya_X8_findings sh_66 ⟨_, rfl, rfl⟩ (Fits.vl (by decide)) rfl rfl (Nat.le_of_ble_eq_true rfl) (S_X8_findings v302 s1.2  _ hv) ?_
      refine r_icmp_eq 1436 dL_law_1417 (by decide) hf (fun c304 hf => ?_) (fun c304 hf => ?_)
      · refine r_iincA (v := 6) dL_law_1436 rfl (by decide) (by decide) ?_
        refine r_goto 18 dL_law_1439 (by decide) ?_
        exact ih3 _ hf
      · refine r_iconst (v := 0) dL_law_1420 (by decide) ?_
        cases hf
    refine r_ite hf (fun c305 hf => ?_) (fun c305 hf => ?_)
    · refine r_tabIn 1422 dL_law_33 (by rw [c305]; decide) (by rw [c305]; decide) (off := 1389) (by rw [c305]; rfl) (by decide) ?_
      refine r_aload_n dL_law_1422 rfl ?_
      obtain ⟨v306, hv, hf⟩ := bnd hf
      refine r_callV (lv := 4) dL_law_1423 yo_X7_digest yi_X7_digest ml_L_195 ya_X7_digest sh_0 ⟨_, rfl, rfl⟩ (Fits.vl (by decide)) rfl rfl (Nat.le_of_ble_eq_true rfl) (S_X7_digest F s1.2  _ hv) ?_
      refine r_aload_n dL_law_1426 rfl ?_
      obtain ⟨v307, hv, hf⟩ := bnd hf
      refine r_callV (lv := 6) dL_law_1427 yo_X8_digest yi_X8_digest ml_L_198 ya_X8_digest sh_66 ⟨_, rfl, rfl⟩ (Fits.vl (by decide)) rfl rfl (Nat.le_of_ble_eq_true rfl) (S_X8_digest F s1.2  _ hv) ?_
      refine r_lcmp dL_law_1430 ?_
      refine r_if_eq 1436 dL_law_1431 (by decide) hf (fun c308 hf => ?_) (fun c308 hf => ?_)
      · refine r_iincA (v := 6) dL_law_1436 rfl (by decide) (by decide) ?_
        refine r_goto 18 dL_law_1439 (by decide) ?_
        exact ih3 _ hf
      · refine r_iconst (v := 0) dL_law_1434 (by decide) ?_
        cases hf
    refine r_tabDef 1436 45 dL_law_33 (by decide) (fun i hi e => ?_) (by decide) ?_
    · have a0 : ¬ ((v4 &&& (63 : Int32))).toInt = 0 := fun q => c5 (Int32.toInt_inj.mp (by rw [q]; rfl))
      have a1 : ¬ ((v4 &&& (63 : Int32))).toInt = 1 := fun q => c13 (Int32.toInt_inj.mp (by rw [q]; rfl))
      have a2 : ¬ ((v4 &&& (63 : Int32))).toInt = 2 := fun q => c23 (Int32.toInt_inj.mp (by rw [q]; rfl))
      have a3 : ¬ ((v4 &&& (63 : Int32))).toInt = 3 := fun q => c31 (Int32.toInt_inj.mp (by rw [q]; rfl))
      have a4 : ¬ ((v4 &&& (63 : Int32))).toInt = 4 := fun q => c37 (Int32.toInt_inj.mp (by rw [q]; rfl))
      have a5 : ¬ ((v4 &&& (63 : Int32))).toInt = 5 := fun q => c51 (Int32.toInt_inj.mp (by rw [q]; rfl))
      have a6 : ¬ ((v4 &&& (63 : Int32))).toInt = 6 := fun q => c57 (Int32.toInt_inj.mp (by rw [q]; rfl))
      have a7 : ¬ ((v4 &&& (63 : Int32))).toInt = 7 := fun q => c65 (Int32.toInt_inj.mp (by rw [q]; rfl))
      have a8 : ¬ ((v4 &&& (63 : Int32))).toInt = 8 := fun q => c75 (Int32.toInt_inj.mp (by rw [q]; rfl))
      have a9 : ¬ ((v4 &&& (63 : Int32))).toInt = 9 := fun q => c81 (Int32.toInt_inj.mp (by rw [q]; rfl))
      have a10 : ¬ ((v4 &&& (63 : Int32))).toInt = 10 := fun q => c87 (Int32.toInt_inj.mp (by rw [q]; rfl))
      have a11 : ¬ ((v4 &&& (63 : Int32))).toInt = 11 := fun q => c95 (Int32.toInt_inj.mp (by rw [q]; rfl))
      have a12 : ¬ ((v4 &&& (63 : Int32))).toInt = 12 := fun q => c103 (Int32.toInt_inj.mp (by rw [q]; rfl))
      have a13 : ¬ ((v4 &&& (63 : Int32))).toInt = 13 := fun q => c111 (Int32.toInt_inj.mp (by rw [q]; rfl))
      have a14 : ¬ ((v4 &&& (63 : Int32))).toInt = 14 := fun q => c117 (Int32.toInt_inj.mp (by rw [q]; rfl))
      have a15 : ¬ ((v4 &&& (63 : Int32))).toInt = 15 := fun q => c125 (Int32.toInt_inj.mp (by rw [q]; rfl))
      have a16 : ¬ ((v4 &&& (63 : Int32))).toInt = 16 := fun q => c133 (Int32.toInt_inj.mp (by rw [q]; rfl))
      have a17 : ¬ ((v4 &&& (63 : Int32))).toInt = 17 := fun q => c139 (Int32.toInt_inj.mp (by rw [q]; rfl))
      have a18 : ¬ ((v4 &&& (63 : Int32))).toInt = 18 := fun q => c145 (Int32.toInt_inj.mp (by rw [q]; rfl))
      have a19 : ¬ ((v4 &&& (63 : Int32))).toInt = 19 := fun q => c151 (Int32.toInt_inj.mp (by rw [q]; rfl))
      have a20 : ¬ ((v4 &&& (63 : Int32))).toInt = 20 := fun q => c157 (Int32.toInt_inj.mp (by rw [q]; rfl))
      have a21 : ¬ ((v4 &&& (63 : Int32))).toInt = 21 := fun q => c163 (Int32.toInt_inj.mp (by rw [q]; rfl))
      have a22 : ¬ ((v4 &&& (63 : Int32))).toInt = 22 := fun q => c169 (Int32.toInt_inj.mp (by rw [q]; rfl))
      have a23 : ¬ ((v4 &&& (63 : Int32))).toInt = 23 := fun q => c177 (Int32.toInt_inj.mp (by rw [q]; rfl))
      have a24 : ¬ ((v4 &&& (63 : Int32))).toInt = 24 := fun q => c181 (Int32.toInt_inj.mp (by rw [q]; rfl))
      have a25 : ¬ ((v4 &&& (63 : Int32))).toInt = 25 := fun q => c187 (Int32.toInt_inj.mp (by rw [q]; rfl))
      have a26 : ¬ ((v4 &&& (63 : Int32))).toInt = 26 := fun q => c195 (Int32.toInt_inj.mp (by rw [q]; rfl))
      have a27 : ¬ ((v4 &&& (63 : Int32))).toInt = 27 := fun q => c201 (Int32.toInt_inj.mp (by rw [q]; rfl))
      have a28 : ¬ ((v4 &&& (63 : Int32))).toInt = 28 := fun q => c209 (Int32.toInt_inj.mp (by rw [q]; rfl))
      have a29 : ¬ ((v4 &&& (63 : Int32))).toInt = 29 := fun q => c215 (Int32.toInt_inj.mp (by rw [q]; rfl))
      have a30 : ¬ ((v4 &&& (63 : Int32))).toInt = 30 := fun q => c223 (Int32.toInt_inj.mp (by rw [q]; rfl))
      have a31 : ¬ ((v4 &&& (63 : Int32))).toInt = 31 := fun q => c229 (Int32.toInt_inj.mp (by rw [q]; rfl))
      have a32 : ¬ ((v4 &&& (63 : Int32))).toInt = 32 := fun q => c237 (Int32.toInt_inj.mp (by rw [q]; rfl))
      have a33 : ¬ ((v4 &&& (63 : Int32))).toInt = 33 := fun q => c243 (Int32.toInt_inj.mp (by rw [q]; rfl))
      have a34 : ¬ ((v4 &&& (63 : Int32))).toInt = 34 := fun q => c249 (Int32.toInt_inj.mp (by rw [q]; rfl))
      have a35 : ¬ ((v4 &&& (63 : Int32))).toInt = 35 := fun q => c257 (Int32.toInt_inj.mp (by rw [q]; rfl))
      have a36 : ¬ ((v4 &&& (63 : Int32))).toInt = 36 := fun q => c263 (Int32.toInt_inj.mp (by rw [q]; rfl))
      have a37 : ¬ ((v4 &&& (63 : Int32))).toInt = 37 := fun q => c269 (Int32.toInt_inj.mp (by rw [q]; rfl))
      have a38 : ¬ ((v4 &&& (63 : Int32))).toInt = 38 := fun q => c277 (Int32.toInt_inj.mp (by rw [q]; rfl))
      have a39 : ¬ ((v4 &&& (63 : Int32))).toInt = 39 := fun q => c281 (Int32.toInt_inj.mp (by rw [q]; rfl))
      have a40 : ¬ ((v4 &&& (63 : Int32))).toInt = 40 := fun q => c285 (Int32.toInt_inj.mp (by rw [q]; rfl))
      have a41 : ¬ ((v4 &&& (63 : Int32))).toInt = 41 := fun q => c289 (Int32.toInt_inj.mp (by rw [q]; rfl))
      have a42 : ¬ ((v4 &&& (63 : Int32))).toInt = 42 := fun q => c295 (Int32.toInt_inj.mp (by rw [q]; rfl))
      have a43 : ¬ ((v4 &&& (63 : Int32))).toInt = 43 := fun q => c299 (Int32.toInt_inj.mp (by rw [q]; rfl))
      have a44 : ¬ ((v4 &&& (63 : Int32))).toInt = 44 := fun q => c305 (Int32.toInt_inj.mp (by rw [q]; rfl))
      exfalso; omega
    · refine r_iincA (v := 6) dL_law_1436 rfl (by decide) (by decide) ?_
      refine r_goto 18 dL_law_1439 (by decide) ?_
      exact ih3 _ hf
