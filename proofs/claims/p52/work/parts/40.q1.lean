/-! ===== what is told ===== -/
def Tx (D' : Dat) (i i' r : MI) (md co : Int) : Prop := ClassP D' i' r ∧ Kp i i' ∧ i' 0 9 = md ∧ i' 0 10 = co
theorem JI.tx {D : Dat} {s : Int × Int × Dat} {i i' r : MI} {md co : Int} (I : JI D i r) (sp : SpOk D s md) (t : Tx s.2.2 i i' r md co) (hmd : md ≤ i 0 9) (hR : co = 0 ∨ (co = i 0 10 ∧ exd D = exd s.2.2)) (h0 : s.1 = 0) : JI s.2.2 i' r := by
  obtain ⟨ok, hc, rc, kp⟩ := I
  obtain ⟨p, k, m9, m10⟩ := t
  refine ⟨sp.1, p, ?_, ?_⟩
  · rcases hR with q | ⟨q, e⟩
    · exact .inl (by rw [m10, q])
    · exact (rc.ex e).fr (fun a x y => k a (by omega)) (by rw [m10, q])
  · rw [m9]
    exact ((kp.le hmd).same (sp.2.1 h0)).keep sp.1 (fun a x y u v => k a (by omega)) (fun _ _ _ => rfl) rfl
theorem J_setTurns {D : Dat} {i r : MI} {p : Int} {Q : Int → MI → Prop} {X : String → MI → Prop} (I : JI D i r) (h1 : 1 ≤ p ∧ p ≤ 16) (h2 : p.tmod D.fac = 0) (hQ : ∀ i', JI (Dat.mk (D.many) (D.tx) (D.cnt) (D.fac) (p) (D.bits) (D.inc) (D.inp) (D.told) (D.un) (D.cy) (D.F) (D.N) (D.T) (D.O) (D.ac) (D.ach) (D.apt) (D.dep)) i' r → Q D.tur i') : wp_X11_setTurns p i r Q X := by
  have h := I.2.1
  have hf := I.1.fac
  have hs : spTurns D p = (0, D.tur, (Dat.mk (D.many) (D.tx) (D.cnt) (D.fac) (p) (D.bits) (D.inc) (D.inp) (D.told) (D.un) (D.cy) (D.F) (D.N) (D.T) (D.O) (D.ac) (D.ach) (D.apt) (D.dep))) := by unfold spTurns; rw [if_pos h1, if_pos h2]
  have sp := spTurns_ok I.1 (p := p) (n := min (i 0 9) 4) (by omega)
  rw [hs] at sp
  have g := hQ (st (st (st i 3 6 p) 0 9 (min ((st i 3 6 p) 0 9) 4)) 0 10 0) (I.tx sp (co := 0) ⟨by ((have hs9 := fun k a b => stm_rng (RefP.s (ClassP.rf h) k a b); have hs9' := stm_rng (RefP.p (ClassP.rf h)); have hc12 := ClassP.c12 h; apply ClassP.mk <;> intros <;> try (simp (disch := omega) only [st_row, st_ne, st_eq, Dat.k_many, Dat.k_tx, Dat.k_cnt, Dat.k_fac, Dat.k_tur, Dat.k_bits, Dat.k_inc, Dat.k_inp, Dat.k_told, Dat.k_un, Dat.k_cy, Dat.k_F, Dat.k_N, Dat.k_T, Dat.k_O, Dat.k_ac, Dat.k_ach, Dat.k_apt, Dat.k_dep])); all_goals (first | exact (ClassP.many h :) | exact (ClassP.cnt h :) | exact (ClassP.inc h :) | exact (ClassP.tur h :) | exact (ClassP.bits h :) | exact (ClassP.fac h :) | exact (ClassP.rf h :) | exact (ClassP.c12 h :) | (apply ClassP.tx h <;> assumption) | (apply ClassP.inp h <;> assumption) | (apply ClassP.told h <;> assumption) | (apply ClassP.un h <;> assumption) | (apply ClassP.cy h <;> assumption) | (apply ClassP.ac h <;> assumption) | (apply ClassP.ach h <;> assumption) | (apply ClassP.apt h <;> assumption) | (apply ClassP.dep h <;> assumption) | (rename_i kk ka kb; have hkb := Int.lt_of_lt_of_le kb hc12.2; have hk9 := hs9 kk ka hkb; (repeat' (apply StmAt.st')); (exact (ClassP.st h kk ka kb :)); (all_goals omega)) | (exfalso; (try simp only [Dat.k_many, Dat.k_tx, Dat.k_cnt, Dat.k_fac, Dat.k_tur, Dat.k_bits, Dat.k_inc, Dat.k_inp, Dat.k_told, Dat.k_un, Dat.k_cy, Dat.k_F, Dat.k_N, Dat.k_T, Dat.k_O, Dat.k_ac, Dat.k_ach, Dat.k_apt, Dat.k_dep] at *); omega) | (have u1 := ClassP.tx h; have u2 := ClassP.inp h; have u3 := ClassP.told h; have u4 := ClassP.un h; have u5 := ClassP.cy h; have u6 := ClassP.ac h; have u7 := ClassP.ach h; have u8 := ClassP.apt h; have u9 := ClassP.dep h; (try simp only [Dat.k_many, Dat.k_tx, Dat.k_cnt, Dat.k_fac, Dat.k_tur, Dat.k_bits, Dat.k_inc, Dat.k_inp, Dat.k_told, Dat.k_un, Dat.k_cy, Dat.k_F, Dat.k_N, Dat.k_T, Dat.k_O, Dat.k_ac, Dat.k_ach, Dat.k_apt, Dat.k_dep] at *); unfold Pilot.CSchedularyLaw_law_r8908_31b577.st; grind) | skip)), fun a ha => by simp (disch := omega) only [st_row], by simp (disch := omega) only [st_row, st_ne, st_eq], by simp (disch := omega) only [st_row, st_ne, st_eq]⟩ (by omega) (.inl rfl) rfl)
  unfold wp_X11_setTurns wp_X11_changeValues
  rw [isWithin_eq, bz, if_pos h1, h.fac, h.tur]
  refine ⟨fun q => absurd q (by decide), fun _ => ?_⟩
  rw [isDivided_eq, bz, if_pos ⟨by omega, h2⟩]
  exact ⟨fun q => absurd q (by decide), fun _ => g⟩
theorem J_setBits {D : Dat} {i r : MI} {p : Int} {Q : Int → MI → Prop} {X : String → MI → Prop} (I : JI D i r) (h1 : 1 ≤ p ∧ p ≤ 16) (hQ : ∀ i', JI (Dat.mk (D.many) (D.tx) (D.cnt) (D.fac) (D.tur) (p) (D.inc) (D.inp) (D.told) (D.un) (D.cy) (D.F) (D.N) (D.T) (D.O) (D.ac) (D.ach) (D.apt) (D.dep)) i' r → Q D.bits i') : wp_X11_setBits p i r Q X := by
  have h := I.2.1
  have hs : spBits D p = (0, D.bits, (Dat.mk (D.many) (D.tx) (D.cnt) (D.fac) (D.tur) (p) (D.inc) (D.inp) (D.told) (D.un) (D.cy) (D.F) (D.N) (D.T) (D.O) (D.ac) (D.ach) (D.apt) (D.dep))) := by unfold spBits; rw [if_pos h1]
  have sp := spBits_ok I.1 (p := p) (n := min (i 0 9) 4) (by omega)
  rw [hs] at sp
  have g := hQ (st (st (st i 3 7 p) 0 9 (min ((st i 3 7 p) 0 9) 4)) 0 10 0) (I.tx sp (co := 0) ⟨by ((have hs9 := fun k a b => stm_rng (RefP.s (ClassP.rf h) k a b); have hs9' := stm_rng (RefP.p (ClassP.rf h)); have hc12 := ClassP.c12 h; apply ClassP.mk <;> intros <;> try (simp (disch := omega) only [st_row, st_ne, st_eq, Dat.k_many, Dat.k_tx, Dat.k_cnt, Dat.k_fac, Dat.k_tur, Dat.k_bits, Dat.k_inc, Dat.k_inp, Dat.k_told, Dat.k_un, Dat.k_cy, Dat.k_F, Dat.k_N, Dat.k_T, Dat.k_O, Dat.k_ac, Dat.k_ach, Dat.k_apt, Dat.k_dep])); all_goals (first | exact (ClassP.many h :) | exact (ClassP.cnt h :) | exact (ClassP.inc h :) | exact (ClassP.tur h :) | exact (ClassP.bits h :) | exact (ClassP.fac h :) | exact (ClassP.rf h :) | exact (ClassP.c12 h :) | (apply ClassP.tx h <;> assumption) | (apply ClassP.inp h <;> assumption) | (apply ClassP.told h <;> assumption) | (apply ClassP.un h <;> assumption) | (apply ClassP.cy h <;> assumption) | (apply ClassP.ac h <;> assumption) | (apply ClassP.ach h <;> assumption) | (apply ClassP.apt h <;> assumption) | (apply ClassP.dep h <;> assumption) | (rename_i kk ka kb; have hkb := Int.lt_of_lt_of_le kb hc12.2; have hk9 := hs9 kk ka hkb; (repeat' (apply StmAt.st')); (exact (ClassP.st h kk ka kb :)); (all_goals omega)) | (exfalso; (try simp only [Dat.k_many, Dat.k_tx, Dat.k_cnt, Dat.k_fac, Dat.k_tur, Dat.k_bits, Dat.k_inc, Dat.k_inp, Dat.k_told, Dat.k_un, Dat.k_cy, Dat.k_F, Dat.k_N, Dat.k_T, Dat.k_O, Dat.k_ac, Dat.k_ach, Dat.k_apt, Dat.k_dep] at *); omega) | (have u1 := ClassP.tx h; have u2 := ClassP.inp h; have u3 := ClassP.told h; have u4 := ClassP.un h; have u5 := ClassP.cy h; have u6 := ClassP.ac h; have u7 := ClassP.ach h; have u8 := ClassP.apt h; have u9 := ClassP.dep h; (try simp only [Dat.k_many, Dat.k_tx, Dat.k_cnt, Dat.k_fac, Dat.k_tur, Dat.k_bits, Dat.k_inc, Dat.k_inp, Dat.k_told, Dat.k_un, Dat.k_cy, Dat.k_F, Dat.k_N, Dat.k_T, Dat.k_O, Dat.k_ac, Dat.k_ach, Dat.k_apt, Dat.k_dep] at *); unfold Pilot.CSchedularyLaw_law_r8908_31b577.st; grind) | skip)), fun a ha => by simp (disch := omega) only [st_row], by simp (disch := omega) only [st_row, st_ne, st_eq], by simp (disch := omega) only [st_row, st_ne, st_eq]⟩ (by omega) (.inl rfl) rfl)
  unfold wp_X11_setBits wp_X11_changeValues
  rw [isWithin_eq, bz, if_pos h1, h.bits]
  exact ⟨fun q => absurd q (by decide), fun _ => g⟩
theorem J_input {D : Dat} {i r : MI} {p : Int} {Q : Int → MI → Prop} {X : String → MI → Prop} (I : JI D i r) (h1 : 0 ≤ p ∧ p ≤ 65535) (h2 : D.inc < 32) (hQ : ∀ i', JI (Dat.mk (D.many) (D.tx) (D.cnt) (D.fac) (D.tur) (D.bits) (D.inc + 1) (fun k => if k = D.inc then p else D.inp k) (D.told) (D.un) (D.cy) (D.F) (D.N) (D.T) (D.O) (D.ac) (D.ach) (D.apt) (D.dep)) i' r → Q (D.inc + 1) i') : wp_X11_input p i r Q X := by
  have h := I.2.1
  have hc := I.1.inc
  have hs : spInput D p = (0, D.inc + 1, (Dat.mk (D.many) (D.tx) (D.cnt) (D.fac) (D.tur) (D.bits) (D.inc + 1) (fun k => if k = D.inc then p else D.inp k) (D.told) (D.un) (D.cy) (D.F) (D.N) (D.T) (D.O) (D.ac) (D.ach) (D.apt) (D.dep))) := by unfold spInput; rw [if_pos h1, if_pos h2]
  have sp := spInput_ok I.1 (p := p) (n := min (i 0 9) 4) (by omega)
  rw [hs] at sp
  have g := hQ (st (st (st (st i 5 D.inc p) 3 5 (D.inc + 1)) 0 9 (min (i 0 9) 4)) 0 10 0) (I.tx sp (co := 0) ⟨by ((have hs9 := fun k a b => stm_rng (RefP.s (ClassP.rf h) k a b); have hs9' := stm_rng (RefP.p (ClassP.rf h)); have hc12 := ClassP.c12 h; apply ClassP.mk <;> intros <;> try (simp (disch := omega) only [st_row, st_ne, st_eq, Dat.k_many, Dat.k_tx, Dat.k_cnt, Dat.k_fac, Dat.k_tur, Dat.k_bits, Dat.k_inc, Dat.k_inp, Dat.k_told, Dat.k_un, Dat.k_cy, Dat.k_F, Dat.k_N, Dat.k_T, Dat.k_O, Dat.k_ac, Dat.k_ach, Dat.k_apt, Dat.k_dep])); all_goals (first | exact (ClassP.many h :) | exact (ClassP.cnt h :) | exact (ClassP.inc h :) | exact (ClassP.tur h :) | exact (ClassP.bits h :) | exact (ClassP.fac h :) | exact (ClassP.rf h :) | exact (ClassP.c12 h :) | (apply ClassP.tx h <;> assumption) | (apply ClassP.inp h <;> assumption) | (apply ClassP.told h <;> assumption) | (apply ClassP.un h <;> assumption) | (apply ClassP.cy h <;> assumption) | (apply ClassP.ac h <;> assumption) | (apply ClassP.ach h <;> assumption) | (apply ClassP.apt h <;> assumption) | (apply ClassP.dep h <;> assumption) | (rename_i kk ka kb; have hkb := Int.lt_of_lt_of_le kb hc12.2; have hk9 := hs9 kk ka hkb; (repeat' (apply StmAt.st')); (exact (ClassP.st h kk ka kb :)); (all_goals omega)) | (exfalso; (try simp only [Dat.k_many, Dat.k_tx, Dat.k_cnt, Dat.k_fac, Dat.k_tur, Dat.k_bits, Dat.k_inc, Dat.k_inp, Dat.k_told, Dat.k_un, Dat.k_cy, Dat.k_F, Dat.k_N, Dat.k_T, Dat.k_O, Dat.k_ac, Dat.k_ach, Dat.k_apt, Dat.k_dep] at *); omega) | (have u1 := ClassP.tx h; have u2 := ClassP.inp h; have u3 := ClassP.told h; have u4 := ClassP.un h; have u5 := ClassP.cy h; have u6 := ClassP.ac h; have u7 := ClassP.ach h; have u8 := ClassP.apt h; have u9 := ClassP.dep h; (try simp only [Dat.k_many, Dat.k_tx, Dat.k_cnt, Dat.k_fac, Dat.k_tur, Dat.k_bits, Dat.k_inc, Dat.k_inp, Dat.k_told, Dat.k_un, Dat.k_cy, Dat.k_F, Dat.k_N, Dat.k_T, Dat.k_O, Dat.k_ac, Dat.k_ach, Dat.k_apt, Dat.k_dep] at *); unfold Pilot.CSchedularyLaw_law_r8908_31b577.st; grind) | skip)), fun a ha => by simp (disch := omega) only [st_row], by simp (disch := omega) only [st_row, st_ne, st_eq], by simp (disch := omega) only [st_row, st_ne, st_eq]⟩ (by omega) (.inl rfl) rfl)
  unfold wp_X11_input wp_X11_changeValues
  rw [isWithin_eq, bz, if_pos h1]
  simp (disch := omega) only [st_row, st_ne, st_eq, h.inc, wr_of]
  exact ⟨fun q => absurd q (by decide), fun _ => ⟨fun _ => ⟨⟨by omega, by omega⟩, g⟩, fun q => absurd h2 q⟩⟩
theorem J_setMemory {D : Dat} {i r : MI} {m p v : Int} {Q : Int → MI → Prop} {X : String → MI → Prop} (I : JI D i r) (h1 : (m = 77 ∨ m = 78) ∧ 0 ≤ p ∧ p ≤ 15) (h2 : 0 ≤ v ∧ v ≤ 65535) (hQ : ∀ i', JI (Dat.mk (D.many) (D.tx) (D.cnt) (D.fac) (D.tur) (D.bits) (D.inc) (D.inp) (fun a b => if a = m - 77 ∧ b = p then v else D.told a b) (D.un) (D.cy) (D.F) (D.N) (D.T) (D.O) (D.ac) (D.ach) (D.apt) (D.dep)) i' r → Q (D.told (m - 77) p) i') : wp_X11_setMemory m p v i r Q X := by
  have h := I.2.1
  have hm : 0 ≤ m ∧ m < 65536 := by omega
  have hs : spMemory D m p v = (0, D.told (m - 77) p, (Dat.mk (D.many) (D.tx) (D.cnt) (D.fac) (D.tur) (D.bits) (D.inc) (D.inp) (fun a b => if a = m - 77 ∧ b = p then v else D.told a b) (D.un) (D.cy) (D.F) (D.N) (D.T) (D.O) (D.ac) (D.ach) (D.apt) (D.dep))) := by unfold spMemory; rw [if_pos ⟨h1.1, h1.2.1, h1.2.2, h2.1, h2.2⟩]
  have sp := spMemory_ok I.1 (m := m) (p := p) (v := v) (n := min (i 0 9) 4) (by omega)
  rw [hs] at sp
  have hx0 := ixS_m h1.1
  have g := hQ (st (st (st i (7 + (m - 77)) p v) 0 9 (min (i 0 9) 4)) 0 10 0) (I.tx sp (co := 0) ⟨by ((have hs9 := fun k a b => stm_rng (RefP.s (ClassP.rf h) k a b); have hs9' := stm_rng (RefP.p (ClassP.rf h)); have hc12 := ClassP.c12 h; apply ClassP.mk <;> intros <;> try (simp (disch := omega) only [st_row, st_ne, st_eq, Dat.k_many, Dat.k_tx, Dat.k_cnt, Dat.k_fac, Dat.k_tur, Dat.k_bits, Dat.k_inc, Dat.k_inp, Dat.k_told, Dat.k_un, Dat.k_cy, Dat.k_F, Dat.k_N, Dat.k_T, Dat.k_O, Dat.k_ac, Dat.k_ach, Dat.k_apt, Dat.k_dep])); all_goals (first | exact (ClassP.many h :) | exact (ClassP.cnt h :) | exact (ClassP.inc h :) | exact (ClassP.tur h :) | exact (ClassP.bits h :) | exact (ClassP.fac h :) | exact (ClassP.rf h :) | exact (ClassP.c12 h :) | (apply ClassP.tx h <;> assumption) | (apply ClassP.inp h <;> assumption) | (apply ClassP.told h <;> assumption) | (apply ClassP.un h <;> assumption) | (apply ClassP.cy h <;> assumption) | (apply ClassP.ac h <;> assumption) | (apply ClassP.ach h <;> assumption) | (apply ClassP.apt h <;> assumption) | (apply ClassP.dep h <;> assumption) | (rename_i kk ka kb; have hkb := Int.lt_of_lt_of_le kb hc12.2; have hk9 := hs9 kk ka hkb; (repeat' (apply StmAt.st')); (exact (ClassP.st h kk ka kb :)); (all_goals omega)) | (exfalso; (try simp only [Dat.k_many, Dat.k_tx, Dat.k_cnt, Dat.k_fac, Dat.k_tur, Dat.k_bits, Dat.k_inc, Dat.k_inp, Dat.k_told, Dat.k_un, Dat.k_cy, Dat.k_F, Dat.k_N, Dat.k_T, Dat.k_O, Dat.k_ac, Dat.k_ach, Dat.k_apt, Dat.k_dep] at *); omega) | (have u1 := ClassP.tx h; have u2 := ClassP.inp h; have u3 := ClassP.told h; have u4 := ClassP.un h; have u5 := ClassP.cy h; have u6 := ClassP.ac h; have u7 := ClassP.ach h; have u8 := ClassP.apt h; have u9 := ClassP.dep h; (try simp only [Dat.k_many, Dat.k_tx, Dat.k_cnt, Dat.k_fac, Dat.k_tur, Dat.k_bits, Dat.k_inc, Dat.k_inp, Dat.k_told, Dat.k_un, Dat.k_cy, Dat.k_F, Dat.k_N, Dat.k_T, Dat.k_O, Dat.k_ac, Dat.k_ach, Dat.k_apt, Dat.k_dep] at *); unfold Pilot.CSchedularyLaw_law_r8908_31b577.st; grind) | skip)), fun a ha => by simp (disch := omega) only [st_row], by simp (disch := omega) only [st_row, st_ne, st_eq], by simp (disch := omega) only [st_row, st_ne, st_eq]⟩ (by omega) (.inl rfl) rfl)
  unfold wp_X11_setMemory s18_X11_setMemory wp_X11_changeValues
  refine isPlace_w hm ?_
  rw [bz, if_pos h1]
  refine ⟨fun q => absurd q (by decide), fun _ => ?_⟩
  rw [isWithin_eq, bz, if_pos h2]
  refine ⟨fun q => absurd q (by decide), fun _ => indexOf_w (by decide) hm.1 hm.2 ?_⟩
  rw [hx0, h.told _ _ (by omega) (by omega) (by omega) (by omega)]
  simp (disch := omega) only [st_row]
  exact ⟨by omega, by omega, by omega, g⟩
theorem J_setUnits {D : Dat} {i r : MI} {k n : Int} {Q : Int → MI → Prop} {X : String → MI → Prop} (I : JI D i r) (hk : 0 ≤ k ∧ k < 65536) (hx : 0 ≤ ixS 3 k) (hn : 1 ≤ n ∧ n ≤ 4) (h5 : ixS 3 k < 5 ∨ n ≤ 1) (hQ : ∀ i', JI (Dat.mk (D.many) (D.tx) (D.cnt) (D.fac) (D.tur) (D.bits) (D.inc) (D.inp) (D.told) (fun a => if a = ixS 3 k then n else D.un a) (D.cy) (D.F) (D.N) (D.T) (D.O) (D.ac) (D.ach) (D.apt) (D.dep)) i' r → Q (D.un (ixS 3 k)) i') : wp_X11_setUnits k n i r Q X := by
  have h := I.2.1
  have hr := ixS_rng (k := 3) (p := k) (by decide)
  simp only [chS, List.length_cons, List.length_nil] at hr
  have hs : spUnits D k n = (0, D.un (ixS 3 k), (Dat.mk (D.many) (D.tx) (D.cnt) (D.fac) (D.tur) (D.bits) (D.inc) (D.inp) (D.told) (fun a => if a = ixS 3 k then n else D.un a) (D.cy) (D.F) (D.N) (D.T) (D.O) (D.ac) (D.ach) (D.apt) (D.dep))) := by unfold spUnits; rw [if_neg (by omega), if_neg (by omega)]
  have sp := spUnits_ok I.1 (k := k) (m := n) (n := min (i 0 9) 2) (by omega)
  rw [hs] at sp
  unfold wp_X11_setUnits s50_X11_setUnits s20_X11_setUnits
  refine indexOf_w (by decide) hk.1 hk.2 ?_
  generalize ixS 3 k = x at *
  have g := hQ (st (st i 69 x n) 0 9 (min ((st i 69 x n) 0 9) 2)) (I.tx sp (co := i 0 10) ⟨by ((have hs9 := fun k a b => stm_rng (RefP.s (ClassP.rf h) k a b); have hs9' := stm_rng (RefP.p (ClassP.rf h)); have hc12 := ClassP.c12 h; apply ClassP.mk <;> intros <;> try (simp (disch := omega) only [st_row, st_ne, st_eq, Dat.k_many, Dat.k_tx, Dat.k_cnt, Dat.k_fac, Dat.k_tur, Dat.k_bits, Dat.k_inc, Dat.k_inp, Dat.k_told, Dat.k_un, Dat.k_cy, Dat.k_F, Dat.k_N, Dat.k_T, Dat.k_O, Dat.k_ac, Dat.k_ach, Dat.k_apt, Dat.k_dep])); all_goals (first | exact (ClassP.many h :) | exact (ClassP.cnt h :) | exact (ClassP.inc h :) | exact (ClassP.tur h :) | exact (ClassP.bits h :) | exact (ClassP.fac h :) | exact (ClassP.rf h :) | exact (ClassP.c12 h :) | (apply ClassP.tx h <;> assumption) | (apply ClassP.inp h <;> assumption) | (apply ClassP.told h <;> assumption) | (apply ClassP.un h <;> assumption) | (apply ClassP.cy h <;> assumption) | (apply ClassP.ac h <;> assumption) | (apply ClassP.ach h <;> assumption) | (apply ClassP.apt h <;> assumption) | (apply ClassP.dep h <;> assumption) | (rename_i kk ka kb; have hkb := Int.lt_of_lt_of_le kb hc12.2; have hk9 := hs9 kk ka hkb; (repeat' (apply StmAt.st')); (exact (ClassP.st h kk ka kb :)); (all_goals omega)) | (exfalso; (try simp only [Dat.k_many, Dat.k_tx, Dat.k_cnt, Dat.k_fac, Dat.k_tur, Dat.k_bits, Dat.k_inc, Dat.k_inp, Dat.k_told, Dat.k_un, Dat.k_cy, Dat.k_F, Dat.k_N, Dat.k_T, Dat.k_O, Dat.k_ac, Dat.k_ach, Dat.k_apt, Dat.k_dep] at *); omega) | (have u1 := ClassP.tx h; have u2 := ClassP.inp h; have u3 := ClassP.told h; have u4 := ClassP.un h; have u5 := ClassP.cy h; have u6 := ClassP.ac h; have u7 := ClassP.ach h; have u8 := ClassP.apt h; have u9 := ClassP.dep h; (try simp only [Dat.k_many, Dat.k_tx, Dat.k_cnt, Dat.k_fac, Dat.k_tur, Dat.k_bits, Dat.k_inc, Dat.k_inp, Dat.k_told, Dat.k_un, Dat.k_cy, Dat.k_F, Dat.k_N, Dat.k_T, Dat.k_O, Dat.k_ac, Dat.k_ach, Dat.k_apt, Dat.k_dep] at *); unfold Pilot.CSchedularyLaw_law_r8908_31b577.st; grind) | skip)), fun a ha => by simp (disch := omega) only [st_row], by simp (disch := omega) only [st_row, st_ne, st_eq], by simp (disch := omega) only [st_row, st_ne, st_eq]⟩ (by omega) (.inr ⟨rfl, rfl⟩) rfl)
  rw [isWithin_eq, bz, if_pos hn, h.un x (by omega) (by omega)]
  exact ⟨fun q => by omega, fun _ => ⟨fun q => absurd q (by decide), fun _ => ⟨fun _ => ⟨by omega, by omega, g⟩, fun _ => ⟨fun _ => ⟨by omega, by omega, g⟩, fun q => by omega⟩⟩⟩⟩
theorem J_setCycles {D : Dat} {i r : MI} {k n : Int} {Q : Int → MI → Prop} {X : String → MI → Prop} (I : JI D i r) (hk : 0 ≤ k ∧ k < 65536) (hx : 0 ≤ ixS 3 k) (hn : 1 ≤ n ∧ n ≤ 5) (hQ : ∀ i', JI (Dat.mk (D.many) (D.tx) (D.cnt) (D.fac) (D.tur) (D.bits) (D.inc) (D.inp) (D.told) (D.un) (fun a => if a = ixS 3 k then n else D.cy a) (D.F) (D.N) (D.T) (D.O) (D.ac) (D.ach) (D.apt) (D.dep)) i' r → Q (D.cy (ixS 3 k)) i') : wp_X11_setCycles k n i r Q X := by
  have h := I.2.1
  have hr := ixS_rng (k := 3) (p := k) (by decide)
  simp only [chS, List.length_cons, List.length_nil] at hr
  have hs : spCycles D k n = (0, D.cy (ixS 3 k), (Dat.mk (D.many) (D.tx) (D.cnt) (D.fac) (D.tur) (D.bits) (D.inc) (D.inp) (D.told) (D.un) (fun a => if a = ixS 3 k then n else D.cy a) (D.F) (D.N) (D.T) (D.O) (D.ac) (D.ach) (D.apt) (D.dep))) := by unfold spCycles; rw [if_neg (by omega)]
  have sp := spCycles_ok I.1 (k := k) (m := n) (n := min (i 0 9) 1) (by omega)
  rw [hs] at sp
  unfold wp_X11_setCycles s20_X11_setCycles
  refine indexOf_w (by decide) hk.1 hk.2 ?_
  generalize ixS 3 k = x at *
  have g := hQ (st (st i 70 x n) 0 9 (min ((st i 70 x n) 0 9) 1)) (I.tx sp (co := i 0 10) ⟨by ((have hs9 := fun k a b => stm_rng (RefP.s (ClassP.rf h) k a b); have hs9' := stm_rng (RefP.p (ClassP.rf h)); have hc12 := ClassP.c12 h; apply ClassP.mk <;> intros <;> try (simp (disch := omega) only [st_row, st_ne, st_eq, Dat.k_many, Dat.k_tx, Dat.k_cnt, Dat.k_fac, Dat.k_tur, Dat.k_bits, Dat.k_inc, Dat.k_inp, Dat.k_told, Dat.k_un, Dat.k_cy, Dat.k_F, Dat.k_N, Dat.k_T, Dat.k_O, Dat.k_ac, Dat.k_ach, Dat.k_apt, Dat.k_dep])); all_goals (first | exact (ClassP.many h :) | exact (ClassP.cnt h :) | exact (ClassP.inc h :) | exact (ClassP.tur h :) | exact (ClassP.bits h :) | exact (ClassP.fac h :) | exact (ClassP.rf h :) | exact (ClassP.c12 h :) | (apply ClassP.tx h <;> assumption) | (apply ClassP.inp h <;> assumption) | (apply ClassP.told h <;> assumption) | (apply ClassP.un h <;> assumption) | (apply ClassP.cy h <;> assumption) | (apply ClassP.ac h <;> assumption) | (apply ClassP.ach h <;> assumption) | (apply ClassP.apt h <;> assumption) | (apply ClassP.dep h <;> assumption) | (rename_i kk ka kb; have hkb := Int.lt_of_lt_of_le kb hc12.2; have hk9 := hs9 kk ka hkb; (repeat' (apply StmAt.st')); (exact (ClassP.st h kk ka kb :)); (all_goals omega)) | (exfalso; (try simp only [Dat.k_many, Dat.k_tx, Dat.k_cnt, Dat.k_fac, Dat.k_tur, Dat.k_bits, Dat.k_inc, Dat.k_inp, Dat.k_told, Dat.k_un, Dat.k_cy, Dat.k_F, Dat.k_N, Dat.k_T, Dat.k_O, Dat.k_ac, Dat.k_ach, Dat.k_apt, Dat.k_dep] at *); omega) | (have u1 := ClassP.tx h; have u2 := ClassP.inp h; have u3 := ClassP.told h; have u4 := ClassP.un h; have u5 := ClassP.cy h; have u6 := ClassP.ac h; have u7 := ClassP.ach h; have u8 := ClassP.apt h; have u9 := ClassP.dep h; (try simp only [Dat.k_many, Dat.k_tx, Dat.k_cnt, Dat.k_fac, Dat.k_tur, Dat.k_bits, Dat.k_inc, Dat.k_inp, Dat.k_told, Dat.k_un, Dat.k_cy, Dat.k_F, Dat.k_N, Dat.k_T, Dat.k_O, Dat.k_ac, Dat.k_ach, Dat.k_apt, Dat.k_dep] at *); unfold Pilot.CSchedularyLaw_law_r8908_31b577.st; grind) | skip)), fun a ha => by simp (disch := omega) only [st_row], by simp (disch := omega) only [st_row, st_ne, st_eq], by simp (disch := omega) only [st_row, st_ne, st_eq]⟩ (by omega) (.inr ⟨rfl, rfl⟩) rfl)
  rw [isWithin_eq, bz, if_pos hn, h.cy x (by omega) (by omega)]
  exact ⟨fun q => by omega, fun _ => ⟨fun q => absurd q (by decide), fun _ => ⟨by omega, by omega, g⟩⟩⟩
theorem J_type {D : Dat} {i r : MI} {c : Int} {Q : Int → MI → Prop} {X : String → MI → Prop} (I : JI D i r) (hc : 0 ≤ c ∧ c < 65536) (hx : 0 ≤ ixS 0 c) (h24 : D.many < 24) (hQ : ∀ i', JI (Dat.mk (D.many + 1) (fun a => if a = D.many then c else D.tx a) (D.cnt) (D.fac) (D.tur) (D.bits) (D.inc) (D.inp) (D.told) (D.un) (D.cy) (D.F) (D.N) (D.T) (D.O) (D.ac) (D.ach) (D.apt) (D.dep)) i' r → Q (D.many + 1) i') : wp_X11_type c i r Q X := by
  have h := I.2.1
  have hb := I.1.many
  have hs : spType D c = (0, D.many + 1, (Dat.mk (D.many + 1) (fun a => if a = D.many then c else D.tx a) (D.cnt) (D.fac) (D.tur) (D.bits) (D.inc) (D.inp) (D.told) (D.un) (D.cy) (D.F) (D.N) (D.T) (D.O) (D.ac) (D.ach) (D.apt) (D.dep))) := by unfold spType; rw [if_neg (by omega), if_neg (by omega)]
  have sp := spType_ok I.1 (c := c) (n := i 0 9) hc
  rw [hs] at sp
  have g := hQ (st (st i 2 D.many c) 1 1 (D.many + 1)) (I.tx sp.1 (co := i 0 10) ⟨by ((have hs9 := fun k a b => stm_rng (RefP.s (ClassP.rf h) k a b); have hs9' := stm_rng (RefP.p (ClassP.rf h)); have hc12 := ClassP.c12 h; apply ClassP.mk <;> intros <;> try (simp (disch := omega) only [st_row, st_ne, st_eq, Dat.k_many, Dat.k_tx, Dat.k_cnt, Dat.k_fac, Dat.k_tur, Dat.k_bits, Dat.k_inc, Dat.k_inp, Dat.k_told, Dat.k_un, Dat.k_cy, Dat.k_F, Dat.k_N, Dat.k_T, Dat.k_O, Dat.k_ac, Dat.k_ach, Dat.k_apt, Dat.k_dep])); all_goals (first | exact (ClassP.many h :) | exact (ClassP.cnt h :) | exact (ClassP.inc h :) | exact (ClassP.tur h :) | exact (ClassP.bits h :) | exact (ClassP.fac h :) | exact (ClassP.rf h :) | exact (ClassP.c12 h :) | (apply ClassP.tx h <;> assumption) | (apply ClassP.inp h <;> assumption) | (apply ClassP.told h <;> assumption) | (apply ClassP.un h <;> assumption) | (apply ClassP.cy h <;> assumption) | (apply ClassP.ac h <;> assumption) | (apply ClassP.ach h <;> assumption) | (apply ClassP.apt h <;> assumption) | (apply ClassP.dep h <;> assumption) | (rename_i kk ka kb; have hkb := Int.lt_of_lt_of_le kb hc12.2; have hk9 := hs9 kk ka hkb; (repeat' (apply StmAt.st')); (exact (ClassP.st h kk ka kb :)); (all_goals omega)) | (exfalso; (try simp only [Dat.k_many, Dat.k_tx, Dat.k_cnt, Dat.k_fac, Dat.k_tur, Dat.k_bits, Dat.k_inc, Dat.k_inp, Dat.k_told, Dat.k_un, Dat.k_cy, Dat.k_F, Dat.k_N, Dat.k_T, Dat.k_O, Dat.k_ac, Dat.k_ach, Dat.k_apt, Dat.k_dep] at *); omega) | (have u1 := ClassP.tx h; have u2 := ClassP.inp h; have u3 := ClassP.told h; have u4 := ClassP.un h; have u5 := ClassP.cy h; have u6 := ClassP.ac h; have u7 := ClassP.ach h; have u8 := ClassP.apt h; have u9 := ClassP.dep h; (try simp only [Dat.k_many, Dat.k_tx, Dat.k_cnt, Dat.k_fac, Dat.k_tur, Dat.k_bits, Dat.k_inc, Dat.k_inp, Dat.k_told, Dat.k_un, Dat.k_cy, Dat.k_F, Dat.k_N, Dat.k_T, Dat.k_O, Dat.k_ac, Dat.k_ach, Dat.k_apt, Dat.k_dep] at *); unfold Pilot.CSchedularyLaw_law_r8908_31b577.st; grind) | skip)), fun a ha => by simp (disch := omega) only [st_row], by simp (disch := omega) only [st_row, st_ne, st_eq], by simp (disch := omega) only [st_row, st_ne, st_eq]⟩ (by omega) (.inr ⟨rfl, sp.2⟩) rfl)
  unfold wp_X11_type wp_X10_append s29_X10_append
  refine indexOf_w (by decide) hc.1 hc.2 ⟨fun _ => ?_, fun q => absurd hx q⟩
  simp (disch := omega) only [st_row, st_ne, st_eq, h.many, wr_of]
  exact ⟨fun _ => ⟨fun q => by omega, fun _ => ⟨by omega, hc, g⟩⟩, fun q => absurd h24 q⟩
theorem J_clear {D : Dat} {i r : MI} {Q : Int → MI → Prop} (I : JI D i r) (hQ : ∀ i', JI (Dat.mk (0) (D.tx) (D.cnt) (D.fac) (D.tur) (D.bits) (D.inc) (D.inp) (D.told) (D.un) (D.cy) (D.F) (D.N) (D.T) (D.O) (D.ac) (D.ach) (D.apt) (D.dep)) i' r → Q D.many i') : wp_X11_clear i r Q := by
  have h := I.2.1
  have sp : SpOk D (0, D.many, (Dat.mk (0) (D.tx) (D.cnt) (D.fac) (D.tur) (D.bits) (D.inc) (D.inp) (D.told) (D.un) (D.cy) (D.F) (D.N) (D.T) (D.O) (D.ac) (D.ach) (D.apt) (D.dep))) (i 0 9) := ⟨clear_ok I.1, fun _ => .rfl' (fun _ _ => rfl) rfl rfl rfl, fun z => absurd rfl z⟩
  have g := hQ (st i 1 1 0) (I.tx sp (co := i 0 10) ⟨by ((have hs9 := fun k a b => stm_rng (RefP.s (ClassP.rf h) k a b); have hs9' := stm_rng (RefP.p (ClassP.rf h)); have hc12 := ClassP.c12 h; apply ClassP.mk <;> intros <;> try (simp (disch := omega) only [st_row, st_ne, st_eq, Dat.k_many, Dat.k_tx, Dat.k_cnt, Dat.k_fac, Dat.k_tur, Dat.k_bits, Dat.k_inc, Dat.k_inp, Dat.k_told, Dat.k_un, Dat.k_cy, Dat.k_F, Dat.k_N, Dat.k_T, Dat.k_O, Dat.k_ac, Dat.k_ach, Dat.k_apt, Dat.k_dep])); all_goals (first | exact (ClassP.many h :) | exact (ClassP.cnt h :) | exact (ClassP.inc h :) | exact (ClassP.tur h :) | exact (ClassP.bits h :) | exact (ClassP.fac h :) | exact (ClassP.rf h :) | exact (ClassP.c12 h :) | (apply ClassP.tx h <;> assumption) | (apply ClassP.inp h <;> assumption) | (apply ClassP.told h <;> assumption) | (apply ClassP.un h <;> assumption) | (apply ClassP.cy h <;> assumption) | (apply ClassP.ac h <;> assumption) | (apply ClassP.ach h <;> assumption) | (apply ClassP.apt h <;> assumption) | (apply ClassP.dep h <;> assumption) | (rename_i kk ka kb; have hkb := Int.lt_of_lt_of_le kb hc12.2; have hk9 := hs9 kk ka hkb; (repeat' (apply StmAt.st')); (exact (ClassP.st h kk ka kb :)); (all_goals omega)) | (exfalso; (try simp only [Dat.k_many, Dat.k_tx, Dat.k_cnt, Dat.k_fac, Dat.k_tur, Dat.k_bits, Dat.k_inc, Dat.k_inp, Dat.k_told, Dat.k_un, Dat.k_cy, Dat.k_F, Dat.k_N, Dat.k_T, Dat.k_O, Dat.k_ac, Dat.k_ach, Dat.k_apt, Dat.k_dep] at *); omega) | (have u1 := ClassP.tx h; have u2 := ClassP.inp h; have u3 := ClassP.told h; have u4 := ClassP.un h; have u5 := ClassP.cy h; have u6 := ClassP.ac h; have u7 := ClassP.ach h; have u8 := ClassP.apt h; have u9 := ClassP.dep h; (try simp only [Dat.k_many, Dat.k_tx, Dat.k_cnt, Dat.k_fac, Dat.k_tur, Dat.k_bits, Dat.k_inc, Dat.k_inp, Dat.k_told, Dat.k_un, Dat.k_cy, Dat.k_F, Dat.k_N, Dat.k_T, Dat.k_O, Dat.k_ac, Dat.k_ach, Dat.k_apt, Dat.k_dep] at *); unfold Pilot.CSchedularyLaw_law_r8908_31b577.st; grind) | skip)), fun a ha => by simp (disch := omega) only [st_row], by simp (disch := omega) only [st_row, st_ne, st_eq], by simp (disch := omega) only [st_row, st_ne, st_eq]⟩ (by omega) (.inr ⟨rfl, rfl⟩) rfl)
  unfold wp_X11_clear wp_X10_empty
  rw [h.many]
  exact g
theorem J_add {D : Dat} {i r : MI} {Q : Int → MI → MI → Prop} {X : String → MI → MI → Prop} (I : JI D i r) (he : (psD D).e = -1) (h12 : D.cnt + 1 ≤ 12) (h24 : (D.cnt + 1) * D.fac ≤ 24) (hQ : ∀ i' r', JI (putS D D.cnt (D.cnt + 1)) i' r' → Q (D.cnt + 1) i' r') : wp_X11_add i r Q X := by
  obtain ⟨ok, h, rc, kp⟩ := I
  have hs : spAdd D = (0, D.cnt + 1, putS D D.cnt (D.cnt + 1)) := by unfold spAdd; rw [if_neg (by omega), if_neg (by omega)]
  have ok' := spAdd_ok ok
  rw [hs] at ok'
  simp only [wp_X11_add, s58_X11_add, wp_X6_useSpare, wp_X10_empty, wp_X11_changeBody]
  refine C_fault h ok (fun i2 g h2 hst => ?_)
  have hc := ok.cnt
  have hf := ok.fac
  have h9 := stm_rng h.rf.p
  rw [h2.cnt, h2.fac, wr_of (by omega) (by omega)]
  have hm : -2147483648 ≤ (D.cnt + 1) * D.fac ∧ (D.cnt + 1) * D.fac < 2147483648 := by
    have e1 : 0 ≤ (D.cnt + 1) * D.fac := Int.mul_nonneg (by omega) (by omega)
    omega
  rw [wr_of hm.1 hm.2, wr_of (x := D.cnt + 1 - 1) (by omega) (by omega), show D.cnt + 1 - 1 = D.cnt by omega]
  refine ⟨fun e => ⟨fun e1 => by omega, fun _ => ⟨fun e2 => ⟨by omega, by omega, ?_⟩, fun e2 => absurd h24 e2⟩⟩, fun e => absurd he e⟩
  refine hQ _ _ ⟨ok', ?_, .inl ?_, ?_⟩
  · refine put_c h2 (hst e) (by omega) (.inl ⟨rfl, rfl⟩) (by omega) ?_ ?_ ?_ ?_
    · simp (disch := omega) only [st_row, st_ne, st_eq]
    · simp (disch := omega) only [st_row, st_ne, st_eq]
    · intro c hc; simp (disch := omega) only [st_row, st_ne, st_eq]
    · intro a x y z; simp (disch := omega) only [st_row]
  · simp (disch := omega) only [st_row, st_ne, st_eq]
  · have z9 : ∀ j : MI, (st (st (st j 1 1 0) 0 9 0) 0 10 0) 0 9 = 0 := fun j => by simp (disch := omega) only [st_row, st_ne, st_eq]
    rw [z9]
    exact ⟨fun y => by omega, fun y => by omega, fun y => by omega, fun y => by omega, fun y => by omega⟩
theorem fac_ok {D : Dat} (ok : DOk D) {p : Int} (h : 1 ≤ p ∧ p ≤ 4) (h2 : D.tur.tmod p = 0) (h3 : D.cnt * p ≤ 24) : DOk (Dat.mk (D.many) (D.tx) (D.cnt) (p) (D.tur) (D.bits) (D.inc) (D.inp) (D.told) (D.un) (D.cy) (D.F) (D.N) (D.T) (D.O) (D.ac) (D.ach) (D.apt) (D.dep)) :=
  ⟨ok.many, ok.tx, ok.cnt, h, h3, ok.tur, h2, ok.bits, ok.inc, ok.inp, ok.told, ok.un, ok.un1, ok.cy, ok.st, ok.ac, ok.ach, ok.apt, ok.dep⟩
theorem J_unroll {D : Dat} {i r : MI} {p : Int} {Q : Int → MI → MI → Prop} {X : String → MI → MI → Prop} (I : JI D i r) (hc : 1 ≤ p ∧ p ≤ 4) (hd : D.tur.tmod p = 0) (hl : D.cnt * p ≤ 24) (hQ : ∀ i' r', JI (Dat.mk (D.many) (D.tx) (D.cnt) (p) (D.tur) (D.bits) (D.inc) (D.inp) (D.told) (D.un) (D.cy) (D.F) (D.N) (D.T) (D.O) (D.ac) (D.ach) (D.apt) (D.dep)) i' r' → Q (nn (Dat.mk (D.many) (D.tx) (D.cnt) (p) (D.tur) (D.bits) (D.inc) (D.inp) (D.told) (D.un) (D.cy) (D.F) (D.N) (D.T) (D.O) (D.ac) (D.ach) (D.apt) (D.dep))) i' r') : wp_X11_unroll p i r Q X := by
  obtain ⟨ok, h, rc, kp⟩ := I
  unfold wp_X11_unroll
  rw [isWithin_eq, bz, if_pos hc, h.tur, h.cnt]
  have c0 := ok.cnt
  have cb : 0 ≤ D.cnt * p := Int.mul_nonneg c0.1 (by omega)
  refine ⟨fun y => absurd y (by decide), fun _ => ?_⟩
  rw [isDiv_e hc.1, bz, if_pos hd, wr_of (x := D.cnt * p) (by omega) (by omega)]
  refine ⟨fun y => absurd y (by decide), fun _ => ⟨fun l => ?_, fun l => absurd hl l⟩⟩
  unfold wp_X11_changeBody
  have ok' := fac_ok ok hc hd hl
  have hp : ClassP (Dat.mk (D.many) (D.tx) (D.cnt) (p) (D.tur) (D.bits) (D.inc) (D.inp) (D.told) (D.un) (D.cy) (D.F) (D.N) (D.T) (D.O) (D.ac) (D.ach) (D.apt) (D.dep)) (st (st (st i 3 8 p) 0 9 0) 0 10 0) r := by
    ((have hs9 := fun k a b => stm_rng (RefP.s (ClassP.rf h) k a b); have hs9' := stm_rng (RefP.p (ClassP.rf h)); have hc12 := ClassP.c12 h; apply ClassP.mk <;> intros <;> try (simp (disch := omega) only [st_row, st_ne, st_eq, Dat.k_many, Dat.k_tx, Dat.k_cnt, Dat.k_fac, Dat.k_tur, Dat.k_bits, Dat.k_inc, Dat.k_inp, Dat.k_told, Dat.k_un, Dat.k_cy, Dat.k_F, Dat.k_N, Dat.k_T, Dat.k_O, Dat.k_ac, Dat.k_ach, Dat.k_apt, Dat.k_dep])); all_goals (first | exact (ClassP.many h :) | exact (ClassP.cnt h :) | exact (ClassP.inc h :) | exact (ClassP.tur h :) | exact (ClassP.bits h :) | exact (ClassP.fac h :) | exact (ClassP.rf h :) | exact (ClassP.c12 h :) | (apply ClassP.tx h <;> assumption) | (apply ClassP.inp h <;> assumption) | (apply ClassP.told h <;> assumption) | (apply ClassP.un h <;> assumption) | (apply ClassP.cy h <;> assumption) | (apply ClassP.ac h <;> assumption) | (apply ClassP.ach h <;> assumption) | (apply ClassP.apt h <;> assumption) | (apply ClassP.dep h <;> assumption) | (rename_i kk ka kb; have hkb := Int.lt_of_lt_of_le kb hc12.2; have hk9 := hs9 kk ka hkb; (repeat' (apply StmAt.st')); (exact (ClassP.st h kk ka kb :)); (all_goals omega)) | (exfalso; (try simp only [Dat.k_many, Dat.k_tx, Dat.k_cnt, Dat.k_fac, Dat.k_tur, Dat.k_bits, Dat.k_inc, Dat.k_inp, Dat.k_told, Dat.k_un, Dat.k_cy, Dat.k_F, Dat.k_N, Dat.k_T, Dat.k_O, Dat.k_ac, Dat.k_ach, Dat.k_apt, Dat.k_dep] at *); omega) | (have u1 := ClassP.tx h; have u2 := ClassP.inp h; have u3 := ClassP.told h; have u4 := ClassP.un h; have u5 := ClassP.cy h; have u6 := ClassP.ac h; have u7 := ClassP.ach h; have u8 := ClassP.apt h; have u9 := ClassP.dep h; (try simp only [Dat.k_many, Dat.k_tx, Dat.k_cnt, Dat.k_fac, Dat.k_tur, Dat.k_bits, Dat.k_inc, Dat.k_inp, Dat.k_told, Dat.k_un, Dat.k_cy, Dat.k_F, Dat.k_N, Dat.k_T, Dat.k_O, Dat.k_ac, Dat.k_ach, Dat.k_apt, Dat.k_dep] at *); unfold Pilot.CSchedularyLaw_law_r8908_31b577.st; grind) | skip))
  have z9 : (st (st (st i 3 8 p) 0 9 0) 0 10 0) 0 9 = 0 := by simp (disch := omega) only [st_row, st_ne, st_eq]
  have z10 : (st (st (st i 3 8 p) 0 9 0) 0 10 0) 0 10 = 0 := by simp (disch := omega) only [st_row, st_ne, st_eq]
  refine J_prep ⟨ok', hp, .inl z10, by rw [z9]; exact ⟨fun y => by omega, fun y => by omega, fun y => by omega, fun y => by omega, fun y => by omega⟩⟩ (by decide) (fun i1 r1 J nv k => ?_)
  rw [nv.n]
  exact hQ _ _ J
/-! processes -/
theorem JI.cg {D : Dat} {i i1 r : MI} (I : JI D i r) (g : FP i i1) : JI D i1 r :=
  ⟨I.1, I.2.1.fp g, I.2.2.1.fr (fun a x y => g a (by omega)) (by rw [g 0 (by omega)]), by rw [g 0 (by omega)]; exact I.2.2.2.keep I.1 (fun a x y _ _ => g a (by omega)) (fun _ _ _ => rfl) rfl⟩
theorem J_action {D : Dat} {i r : MI} {p c b : Int} {Q : Int → MI → Prop} {X : String → MI → Prop} (I : JI D i r) (hp : 0 ≤ p ∧ p ≤ 3) (hc : 0 ≤ c ∧ c ≤ 3) (hb : b = 0 ∨ b = 1) (hQ : D.ac p < 16 → ∀ i', JI (spAction D p c b).2.2 i' r → Q (D.ac p + 1) i') (hX : ¬ D.ac p < 16 → X "java/lang/IllegalStateException" i) : wp_X11_action p c b i r Q X := by
  have h := I.2.1
  have sp := spAction_ok I.1 (p := p) (c := c) (b := b) (n := i 0 9) hb
  have ha := I.1.ac p hp.1 (by omega)
  unfold wp_X11_action s18_X11_action wp_X5_append s53_X5_append s42_X5_append
  rw [isWithin_eq, bz, if_pos hp, isWithin_eq, bz, if_pos hc, h.ac p hp.1 (by omega)]
  refine ⟨fun q => absurd q (by decide), fun _ => ⟨fun q => absurd q (by decide), fun _ => ⟨by omega, fun h6 => ?_, fun h6 => hX h6⟩⟩⟩
  have hs : spAction D p c b = (0, D.ac p + 1, (Dat.mk (D.many) (D.tx) (D.cnt) (D.fac) (D.tur) (D.bits) (D.inc) (D.inp) (D.told) (D.un) (D.cy) (D.F) (D.N) (D.T) (D.O) (fun a => if a = p then D.ac p + 1 else D.ac a) (fun a k => if a = p ∧ k = D.ac p then c else D.ach a k) (fun a k => if a = p ∧ k = D.ac p then b else D.apt a k) (D.dep))) := by unfold spAction; rw [if_pos ⟨hp.1, hp.2, hc.1, hc.2⟩, if_pos h6]
  have g : ∀ w : Int, w = 2 * b - 1 → Q (D.ac p + 1) (st (st (st i (490 + p) (D.ac p) c) (495 + p) (D.ac p) w) 499 p (D.ac p + 1)) := by
    intro w hw
    refine hQ h6 _ (I.tx sp.1 (co := i 0 10) ?_ (by omega) (.inr ⟨rfl, sp.2⟩) (by rw [hs]))
    rw [hs]
    refine ⟨?_, ?_, ?_, ?_⟩
    · ((have hs9 := fun k a b => stm_rng (RefP.s (ClassP.rf h) k a b); have hs9' := stm_rng (RefP.p (ClassP.rf h)); have hc12 := ClassP.c12 h; apply ClassP.mk <;> intros <;> try (simp (disch := omega) only [st_row, st_ne, st_eq, Dat.k_many, Dat.k_tx, Dat.k_cnt, Dat.k_fac, Dat.k_tur, Dat.k_bits, Dat.k_inc, Dat.k_inp, Dat.k_told, Dat.k_un, Dat.k_cy, Dat.k_F, Dat.k_N, Dat.k_T, Dat.k_O, Dat.k_ac, Dat.k_ach, Dat.k_apt, Dat.k_dep])); all_goals (first | exact (ClassP.many h :) | exact (ClassP.cnt h :) | exact (ClassP.inc h :) | exact (ClassP.tur h :) | exact (ClassP.bits h :) | exact (ClassP.fac h :) | exact (ClassP.rf h :) | exact (ClassP.c12 h :) | (apply ClassP.tx h <;> assumption) | (apply ClassP.inp h <;> assumption) | (apply ClassP.told h <;> assumption) | (apply ClassP.un h <;> assumption) | (apply ClassP.cy h <;> assumption) | (apply ClassP.ac h <;> assumption) | (apply ClassP.ach h <;> assumption) | (apply ClassP.apt h <;> assumption) | (apply ClassP.dep h <;> assumption) | (rename_i kk ka kb; have hkb := Int.lt_of_lt_of_le kb hc12.2; have hk9 := hs9 kk ka hkb; (repeat' (apply StmAt.st')); (exact (ClassP.st h kk ka kb :)); (all_goals omega)) | (exfalso; (try simp only [Dat.k_many, Dat.k_tx, Dat.k_cnt, Dat.k_fac, Dat.k_tur, Dat.k_bits, Dat.k_inc, Dat.k_inp, Dat.k_told, Dat.k_un, Dat.k_cy, Dat.k_F, Dat.k_N, Dat.k_T, Dat.k_O, Dat.k_ac, Dat.k_ach, Dat.k_apt, Dat.k_dep] at *); omega) | (have u1 := ClassP.tx h; have u2 := ClassP.inp h; have u3 := ClassP.told h; have u4 := ClassP.un h; have u5 := ClassP.cy h; have u6 := ClassP.ac h; have u7 := ClassP.ach h; have u8 := ClassP.apt h; have u9 := ClassP.dep h; (try simp only [Dat.k_many, Dat.k_tx, Dat.k_cnt, Dat.k_fac, Dat.k_tur, Dat.k_bits, Dat.k_inc, Dat.k_inp, Dat.k_told, Dat.k_un, Dat.k_cy, Dat.k_F, Dat.k_N, Dat.k_T, Dat.k_O, Dat.k_ac, Dat.k_ach, Dat.k_apt, Dat.k_dep] at *); unfold Pilot.CSchedularyLaw_law_r8908_31b577.st; grind) | skip))
    · intro a ha; simp (disch := omega) only [st_row]
    · simp (disch := omega) only [st_row, st_ne, st_eq]
    · simp (disch := omega) only [st_row, st_ne, st_eq]
  simp (disch := omega) only [st_row, st_ne, st_eq, wr_of]
  refine ⟨by omega, fun q => by omega, fun _ => ⟨by omega, by omega, by omega, fun q => ?_, fun q => ?_⟩⟩
  · have g' := g (-1) (by omega)
    refine ⟨by omega, by omega, ?_⟩
    unfold s53_X5_append
    rw [st_eq]
    exact ⟨by omega, g'⟩
  · have g' := g 1 (by omega)
    refine ⟨by omega, by omega, ?_⟩
    unfold s53_X5_append
    rw [st_eq]
    exact ⟨by omega, g'⟩
theorem J_setDepth {D : Dat} {i r : MI} {c n : Int} {Q : Int → MI → Prop} {X : String → MI → Prop} (I : JI D i r) (hc : 0 ≤ c ∧ c ≤ 3) (hn : 1 ≤ n ∧ n ≤ 16) (hQ : ∀ i', JI (Dat.mk (D.many) (D.tx) (D.cnt) (D.fac) (D.tur) (D.bits) (D.inc) (D.inp) (D.told) (D.un) (D.cy) (D.F) (D.N) (D.T) (D.O) (D.ac) (D.ach) (D.apt) (fun a => if a = c then n else D.dep a)) i' r → Q (D.dep c) i') : wp_X11_setDepth c n i r Q X := by
  have h := I.2.1
  have hs : spDepth D c n = (0, D.dep c, (Dat.mk (D.many) (D.tx) (D.cnt) (D.fac) (D.tur) (D.bits) (D.inc) (D.inp) (D.told) (D.un) (D.cy) (D.F) (D.N) (D.T) (D.O) (D.ac) (D.ach) (D.apt) (fun a => if a = c then n else D.dep a))) := by unfold spDepth; rw [if_pos ⟨hc.1, hc.2, hn.1, hn.2⟩]
  have sp := spDepth_ok I.1 (c := c) (m := n) (n := i 0 9)
  rw [hs] at sp
  have g := hQ (st i 500 c n) (I.tx sp.1 (co := i 0 10) ⟨by ((have hs9 := fun k a b => stm_rng (RefP.s (ClassP.rf h) k a b); have hs9' := stm_rng (RefP.p (ClassP.rf h)); have hc12 := ClassP.c12 h; apply ClassP.mk <;> intros <;> try (simp (disch := omega) only [st_row, st_ne, st_eq, Dat.k_many, Dat.k_tx, Dat.k_cnt, Dat.k_fac, Dat.k_tur, Dat.k_bits, Dat.k_inc, Dat.k_inp, Dat.k_told, Dat.k_un, Dat.k_cy, Dat.k_F, Dat.k_N, Dat.k_T, Dat.k_O, Dat.k_ac, Dat.k_ach, Dat.k_apt, Dat.k_dep])); all_goals (first | exact (ClassP.many h :) | exact (ClassP.cnt h :) | exact (ClassP.inc h :) | exact (ClassP.tur h :) | exact (ClassP.bits h :) | exact (ClassP.fac h :) | exact (ClassP.rf h :) | exact (ClassP.c12 h :) | (apply ClassP.tx h <;> assumption) | (apply ClassP.inp h <;> assumption) | (apply ClassP.told h <;> assumption) | (apply ClassP.un h <;> assumption) | (apply ClassP.cy h <;> assumption) | (apply ClassP.ac h <;> assumption) | (apply ClassP.ach h <;> assumption) | (apply ClassP.apt h <;> assumption) | (apply ClassP.dep h <;> assumption) | (rename_i kk ka kb; have hkb := Int.lt_of_lt_of_le kb hc12.2; have hk9 := hs9 kk ka hkb; (repeat' (apply StmAt.st')); (exact (ClassP.st h kk ka kb :)); (all_goals omega)) | (exfalso; (try simp only [Dat.k_many, Dat.k_tx, Dat.k_cnt, Dat.k_fac, Dat.k_tur, Dat.k_bits, Dat.k_inc, Dat.k_inp, Dat.k_told, Dat.k_un, Dat.k_cy, Dat.k_F, Dat.k_N, Dat.k_T, Dat.k_O, Dat.k_ac, Dat.k_ach, Dat.k_apt, Dat.k_dep] at *); omega) | (have u1 := ClassP.tx h; have u2 := ClassP.inp h; have u3 := ClassP.told h; have u4 := ClassP.un h; have u5 := ClassP.cy h; have u6 := ClassP.ac h; have u7 := ClassP.ach h; have u8 := ClassP.apt h; have u9 := ClassP.dep h; (try simp only [Dat.k_many, Dat.k_tx, Dat.k_cnt, Dat.k_fac, Dat.k_tur, Dat.k_bits, Dat.k_inc, Dat.k_inp, Dat.k_told, Dat.k_un, Dat.k_cy, Dat.k_F, Dat.k_N, Dat.k_T, Dat.k_O, Dat.k_ac, Dat.k_ach, Dat.k_apt, Dat.k_dep] at *); unfold Pilot.CSchedularyLaw_law_r8908_31b577.st; grind) | skip)), fun a ha => by simp (disch := omega) only [st_row], by simp (disch := omega) only [st_row, st_ne, st_eq], by simp (disch := omega) only [st_row, st_ne, st_eq]⟩ (by omega) (.inr ⟨rfl, rfl⟩) rfl)
  unfold wp_X11_setDepth s19_X11_setDepth
  rw [isWithin_eq, bz, if_pos hc, isWithin_eq, bz, if_pos hn, h.dep c hc.1 (by omega)]
  exact ⟨fun q => absurd q (by decide), fun _ => ⟨fun q => absurd q (by decide), fun _ => ⟨by omega, by omega, g⟩⟩⟩
theorem J_done {D : Dat} {i r : MI} {Q : Int → MI → Prop} (I : JI D i r) (hQ : ∀ s i', FinP D D.dep s → okP D D.dep s → JI D i' r → Q (sumP s) i') : wp_X11_done i r Q := by
  unfold wp_X11_done
  refine goTheir_w I.2.1 I.1 (fun i' s f c o fi => ?_)
  exact countDone_w I.1 c o (hQ s _ fi o (I.cg f))
theorem J_locked {D : Dat} {i r : MI} {Q : Int → MI → Prop} (I : JI D i r) (hQ : ∀ s i' v, FinP D D.dep s → JI D i' r → (left D s → v = 1) → (¬ left D s → v = 0) → Q v i') : wp_X11_areLocked i r Q := by
  unfold wp_X11_areLocked
  refine goTheir_w I.2.1 I.1 (fun i' s f c o fi => ?_)
  exact isLeft_w (I.2.1.fp f) c (fun l => ⟨.inr rfl, hQ s _ 1 fi (I.cg f) (fun _ => rfl) (fun z => absurd l z)⟩) (fun l => ⟨.inl rfl, hQ s _ 0 fi (I.cg f) (fun z => absurd z l) (fun _ => rfl)⟩)
theorem J_waitsFor {D : Dat} {i r : MI} {p : Int} {Q : Int → MI → Prop} {X : String → MI → Prop} (I : JI D i r) (e : 0 ≤ p ∧ p ≤ 3) (hQ : ∀ s i', FinP D D.dep s → okP D D.dep s → JI D i' r → Q (waitV D s p) i') : wp_X11_waitsFor p i r Q X := by
  have ok := I.1
  unfold wp_X11_waitsFor wp_X5_nextChannel s29_X5_nextChannel
  rw [isWithin_eq, bz, if_pos e]
  refine ⟨fun q => absurd q (by decide), fun _ => ?_⟩
  refine goTheir_w I.2.1 ok (fun i' s f c o fi => ?_)
  have hm := I.2.1.fp f
  rw [hm.ac p e.1 (by omega), c.a p e.1 (by omega)]
  have hQ := hQ s i' fi o (I.cg f)
  unfold waitV at hQ
  have ha := o.a p e.1 (by omega)
  have hac := ok.ac p e.1 (by omega)
  refine ⟨by omega, by omega, fun q => ?_, fun q => ⟨by omega, by omega, ?_⟩⟩
  · rw [if_neg (by omega)] at hQ; exact hQ
  · rw [if_pos (by omega)] at hQ
    rw [hm.ach p _ e.1 (by omega) ha.1 (by omega)]
    exact hQ
theorem J_least {D : Dat} {i r : MI} {Q : Int → MI → Prop} {X : String → MI → Prop} (I : JI D i r) (hQ : ∀ d i', LeastD D d → d ≤ 16 → JI D i' r → Q d i') (hX : ∀ i', LeastD D 17 → JI D i' r → X "java/util/NoSuchElementException" i') : wp_X11_leastDepth i r Q X := by
  have h := I.2.1
  have ok := I.1
  simp only [wp_X11_leastDepth, wp_X5_findLeastDepth]
  refine Lp.r2 (fun (x : Int) (m : MI) => 1 ≤ x ∧ x ≤ 17 ∧ FP i m ∧ ∀ k, 1 ≤ k → k < x → ∃ s, FinP D (fun _ => k) s ∧ left D s) (fun x _ => (17 - x).toNat) ?_ ⟨by decide, by decide, FP.refl _, fun k a b => by omega⟩
  intro x m C ⟨h0, h1, h2, h3⟩ hC
  dsimp only [b2_X5_findLeastDepth]
  refine ⟨fun q => ⟨fun _ => ?_, fun z => absurd rfl z⟩, fun q => ?_⟩
  · have e : x = 17 := by omega
    rw [e] at h3
    exact hX m ⟨h3, by omega, by omega, fun w => by omega⟩ (I.cg h2)
  · refine Lp.r2 (fun (y : Int) (m : MI) => 0 ≤ y ∧ y ≤ 4 ∧ FP i m ∧ ∀ k, 0 ≤ k → k < y → m 501 k = x) (fun y _ => (4 - y).toNat) ?_ ⟨by decide, by decide, h2, fun k a b => by omega⟩
    intro y m C2 ⟨g0, g1, g2, g3⟩ hC2
    dsimp only [b10_X5_findLeastDepth]
    refine ⟨fun q2 => ?_, fun q2 => ⟨⟨g0, by omega⟩, ?_⟩⟩
    · refine go_w (lim := fun _ => x) (h.fp g2) ok (fun c a b => ⟨h0, by show x ≤ 16; omega⟩) (fun c a b => g3 c a (by omega)) (fun i' s f c o fi => ?_)
      refine isLeft_w (h.fp (g2.trans f)) c (fun l => ⟨fun z => absurd z (by decide), fun _ => ?_⟩) (fun l => ⟨fun _ => ⟨fun z => by omega, fun _ => ?_⟩, fun z => absurd rfl z⟩)
      · rw [wr_of (by omega) (by omega)]
        refine hC _ _ ⟨by omega, by omega, g2.trans f, fun k a b => ?_⟩ (by omega)
        by_cases e : k = x
        · rw [e]; exact ⟨s, fi, l⟩
        · exact h3 k a (by omega)
      · exact hQ x _ ⟨h3, h0, by omega, fun _ => ⟨s, fi, l⟩⟩ (by omega) (I.cg (g2.trans f))
    · rw [wr_of (by omega) (by omega)]
      refine hC2 _ _ ⟨by omega, by omega, g2.trans (FP.st (by decide)), fun k a b => ?_⟩ (by omega)
      by_cases e : k = y
      · rw [e, st_eq]
      · rw [st_ne (by omega)]; exact g3 k a (by omega)
