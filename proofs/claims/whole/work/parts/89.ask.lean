/-! THE PURE PART, calls that write: ask, weigh -/
theorem C_akInit (h1 : mH) (t s r w : Int) : ∃ h3, Cl kAk_init [vO 1 h1.top, vI t, vR 7 s, vI r, vI w] (h1.new 1 4) = some (none, h3) ∧ Fr (fun _ _ => False) 1 4 h1 h3 ∧ h3.cnt = h1.cnt + 1 ∧ h3.M h1.top 0 = t ∧ h3.M h1.top 1 = s ∧ h3.M h1.top 2 = r ∧ h3.M h1.top 3 = w := by
  rw [E_Ak_init, Z_hl, Z_hl, Z_hl, Z_hl]
  refine ⟨_, rfl, Fr.nwo ((((Ew.st (W := fun b _ => b = h1.top) _ _ rfl).tr (Ew.st _ _ rfl)).tr (Ew.st _ _ rfl)).tr (Ew.st _ _ rfl)), rfl, ?_, ?_, ?_, ?_⟩
  · exact (Z_Mn (by omega)).trans ((Z_Mn (by omega)).trans ((Z_Mn (by omega)).trans (Z_Mt ..)))
  · exact (Z_Mn (by omega)).trans ((Z_Mn (by omega)).trans (Z_Mt ..))
  · exact (Z_Mn (by omega)).trans (Z_Mt ..)
  · exact Z_Mt ..
theorem ite_gd {α : Type} {p q g1 g2 : Prop} [Decidable p] [Decidable q] [Decidable g1] [Decidable g2] {A B : Option α} (hh : ¬ p → g1 ∧ g2 ∧ ¬ q) : (if p then A else gd g1 <| gd g2 <| (if q then B else A)) = A := by
  by_cases z : p
  · rw [if_pos z]
  · obtain ⟨a, b, c⟩ := hh z
    rw [if_neg z, gd_t a, gd_t b, if_neg c]
def Was (k : Int) : Int → Int → Prop := fun b j => (b = 1 ∧ j = 7) ∨ (b = 9 ∧ j = 49) ∨ ((b = 5 ∨ (39 ≤ b ∧ b ≤ 45)) ∧ j = k)
def askC (h : mH) (nc : Int) (Ds : Int → Int → Int → Int → Int) (t c y m d r w : Int) : Prop := h.M 1 7 < 60 ∧ (0 ≤ t ∧ t ≤ 999) ∧ (0 ≤ r ∧ r ≤ 6) ∧ (0 ≤ w ∧ w ≤ 9999) ∧ (0 < h.M 1 7 → h.M 39 (h.M 1 7 - 1) ≤ t) ∧ isd nc Ds c y m d
theorem C_askNo {h : mH} {T : Int → Int} {n nc : Int} {Ds : Int → Int → Int → Int → Int} {nh : Int} {Xs : Int → HX} (I : INV h T n nc Ds nh Xs) {t c y m d r w : Int} (N : ¬ askC h nc Ds t c y m d r w) : Cl kX_ask [vO 10 1, vI t, vI c, vI y, vI m, vI d, vI r, vI w] h = some (some (vI (-1)), h) := by
  have L := I.1
  obtain ⟨m0, m1, m2⟩ := I.na
  unfold askC at N
  rw [E_X_ask]
  by_cases a1 : h.M 1 7 < 60
  · rw [if_pos a1]
    by_cases a2 : t < 0
    · rw [if_pos a2]
    rw [if_neg a2]
    by_cases a3 : t ≤ 999
    · rw [if_pos a3]
      by_cases a4 : r < 0
      · rw [if_pos a4]
      rw [if_neg a4]
      by_cases a5 : r ≤ 6
      · rw [if_pos a5]
        by_cases a6 : w < 0
        · rw [if_pos a6]
        rw [if_neg a6]
        by_cases a7 : w ≤ 9999
        · rw [if_pos a7]
          obtain ⟨s, h1, rS, q⟩ := C_spotOn I c y m d
          have no : ¬ (0 < h.M 1 7 → h.M 39 (h.M 1 7 - 1) ≤ t) ∨ ¬ isd nc Ds c y m d := by
            by_cases z : isd nc Ds c y m d
            · exact Or.inl fun z1 => N ⟨a1, ⟨by omega, a3⟩, ⟨by omega, a5⟩, ⟨by omega, a7⟩, z1, z⟩
            · exact Or.inr z
          by_cases a8 : h.M 1 7 ≤ 0
          · rcases no with z | z
            · exact absurd (fun u => by omega) z
            · rcases q with ⟨i, _⟩ | ⟨i, es, eh⟩
              · exact absurd i z
              · rw [if_pos a8, rS, Z_bR, if_pos es, eh]
          · have A := I.ask (i := h.M 1 7 - 1) (by omega) (by omega)
            rw [if_neg a8, Z_wI (by omega), lx6 L, ln5 L, gd_t (by omega), gd_t A.2.2.2.2.2.2.2.1, A.2.1]
            by_cases a9 : t < h.M 39 (h.M 1 7 - 1)
            · rw [if_pos a9]
            · rw [if_neg a9]
              rcases no with z | z
              · exact absurd (fun u => by omega) z
              · rcases q with ⟨i, _⟩ | ⟨i, es, eh⟩
                · exact absurd i z
                · rw [rS, Z_bR, if_pos es, eh]
        · rw [if_neg a7]
      · rw [if_neg a5]
    · rw [if_neg a3]
  · rw [if_neg a1]
theorem R_askNo {h : mH} {T : Int → Int} {n nc : Int} {Ds : Int → Int → Int → Int → Int} {nh : Int} {Xs : Int → HX} (I : INV h T n nc Ds nh Xs) {t c y m d r w : Int} (N : ¬ askC h nc Ds t c y m d r w) : Cl kM_ask [vO 11 9, vI t, vI c, vI y, vI m, vI d, vI r, vI w] h = some (some (vI (-1)), h) := by
  have L := I.1
  obtain ⟨m0, m1, m2⟩ := I.na
  unfold askC at N
  rw [E_M_ask, R_in, Z_bI]
  by_cases a2 : 0 ≤ t ∧ t ≤ 999
  · rw [bz_t a2, if_neg n10]
    have five : (0 < h.M 1 7 → h.M 39 (h.M 1 7 - 1) ≤ t) → Rn kM_ask 5 [vO 11 9, vI t, vI c, vI y, vI m, vI d, vI r, vI w] [] h = some (some (vI (-1)), h) := fun u => by
      rw [E_M_ask_5, R_isDate I.mcs, Z_bI]
      by_cases i : isd nc Ds c y m d
      · rw [cb_t i, if_neg n10, R_in, Z_bI]
        by_cases a3 : 0 ≤ r ∧ r ≤ 6
        · rw [bz_t a3, if_neg n10, R_in, Z_bI]
          by_cases a4 : 0 ≤ w ∧ w ≤ 9999
          · rw [bz_t a4, if_neg n10, m0, if_pos (Classical.byContradiction fun z => N ⟨by omega, a2, a3, a4, u, i⟩)]
          · rw [bz_f a4, if_pos rfl]
        · rw [bz_f a3, if_pos rfl]
      · rw [cb_f i, if_pos rfl]
    rw [m0]
    by_cases a8 : h.M 1 7 ≤ 0
    · rw [if_pos a8]
      exact five fun u => by omega
    · rw [if_neg a8, if_pos m2, Z_wI (by omega), lm42 L, ln39 L, gd_t (by omega)]
      by_cases a9 : t < h.M 39 (h.M 1 7 - 1)
      · rw [if_pos a9]
      · rw [if_neg a9]
        exact five fun u => by omega
  · rw [bz_f a2, if_pos rfl]
theorem ok_ask {t c y m d r w : Int} : okc kX_ask kM_ask [vI t, vI c, vI y, vI m, vI d, vI r, vI w] := okw fun h T n nc Ds nh Xs I => by
  have L := I.1
  have c56 := L.2.2
  by_cases N : askC h nc Ds t c y m d r w
  · obtain ⟨v0, v1, v2⟩ := I.na
    obtain ⟨a1, a2, a3, a4, a5, i⟩ := N
    obtain ⟨s, h1, rS, q⟩ := C_spotOn I c y m d
    rcases q with ⟨i, es, xf, cn1, m0, m1, m2, m3, m4, m5⟩ | ⟨z, es, eh⟩
    · obtain ⟨h3, rA, xg, cn3, g0, g1, g2, g3⟩ := C_akInit h1 t s r w
      have tp : h.top = h.cnt + 1 := rfl
      have tp1 : h1.top = h1.cnt + 1 := rfl
      have sn : ¬ s = 0 := by omega
      have tn : h1.top ≠ 0 := by omega
      generalize et : h1.top = A at rA g0 g1 g2 g3 tn tp1
      let k := h.M 1 7
      have kk : h.M 1 7 = k := rfl
      have k0 : 0 ≤ k := v1
      have k60 : k < 60 := a1
      have xfg : Fr (fun _ _ => False) 2 10 h h3 := xf.tr xg
      have L1 : lay h1 := L.fr xf fun b k w => w.elim
      have L3 : lay h3 := L.fr xfg fun b k w => w.elim
      have f1 : ∀ b j : Int, b ≤ 56 → h1.M b j = h.M b j := fun b j hb => xf.1 b j (by omega) fun w => w
      have f3 : ∀ b j : Int, b ≤ 56 → h3.M b j = h.M b j := fun b j hb => xfg.1 b j (by omega) fun w => w
      have h17 : h1.M 1 7 = k := (f1 1 7 (by decide)).trans kk
      have h37 : h3.M 1 7 = k := (f3 1 7 (by decide)).trans kk
      have h49 : h3.M 9 49 = k := (f3 9 49 (by decide)).trans v0
      have La := L3.st A (layA_n (b := 5) k (by decide) (by decide))
      have Lb := La.st (k + 1) (wok_lay (b := 1) (k := 7) (Or.inl ⟨rfl, by decide⟩))
      have a : Cl kX_ask [vO 10 1, vI t, vI c, vI y, vI m, vI d, vI r, vI w] h = some (some (vI k), (h3.set 5 k A).set 1 7 (k + 1)) := by
        rw [E_X_ask, if_pos a1, if_neg (by omega), if_pos a2.2, if_neg (by omega), if_pos a3.2, if_neg (by omega), if_pos a4.2, ite_gd, rS, Z_bR, if_neg sn, Z_hl, et, rA, Z_bV, h17, lx6 L1, ln5 L3, gd_t (by omega), gd_t tn, Z_hl, show (h3.set 5 k A).M 1 7 = k from h37, Z_wI (z := k + 1) (by omega), Z_hl, show ((h3.set 5 k A).set 1 7 (k + 1)).M 1 7 = k + 1 from rfl, Z_wI (by omega), show k + 1 - 1 = k by omega]
        intro z
        have AA := I.ask (i := h.M 1 7 - 1) (by omega) (by omega)
        rw [Z_wI (by omega), lx6 L, ln5 L, AA.2.1]
        exact ⟨by omega, AA.2.2.2.2.2.2.2.1, by have := a5 (by omega); omega⟩
      have xa : Ew (Was k) h3 ((h3.set 5 k A).set 1 7 (k + 1)) := (Ew.st (W := Was k) h3 _ (Or.inr (Or.inr ⟨by decide, rfl⟩))).tr (Ew.st _ _ (Or.inl ⟨rfl, rfl⟩))
      have hw : ∀ b j, Was k b j → Wok b j := fun b j w => by unfold Was at w; unfold Wok; omega
      have S1 : mcs ((h3.set 5 k A).set 1 7 (k + 1)) nc Ds := by
        obtain ⟨L1, ic, _⟩ := I.wr ((xfg.mono (fun _ _ w => w.elim) (Nat.le_refl _) (Nat.le_refl _)).tr xa.fr) hw
        exact ⟨L1, ic.1, ic.2.2.1, ic.2.2.2.1, fun c c0 c1 => (ic.2.2.2.2 c c0 c1).1⟩
      generalize eHc : (h3.set 5 k A).set 1 7 (k + 1) = Hc at a xa S1 Lb
      have c49 : Hc.M 9 49 = k := by rw [← eHc]; exact h49
      have cm : ∀ b j : Int, 39 ≤ b → b ≤ 45 → Hc.M b j = h.M b j := fun b j b0 b1 => by
        rw [← eHc]
        exact (Z_Mn (by omega)).trans ((Z_Mn (by omega)).trans (f3 b j (by omega)))
      have L39 := Lb.st t (layA_n (b := 39) k (by decide) (by decide))
      have L40 := L39.st c (layA_n (b := 40) k (by decide) (by decide))
      have L41 := L40.st y (layA_n (b := 41) k (by decide) (by decide))
      have L42 := L41.st m (layA_n (b := 42) k (by decide) (by decide))
      have L43 := L42.st d (layA_n (b := 43) k (by decide) (by decide))
      have L44 := L43.st r (layA_n (b := 44) k (by decide) (by decide))
      have b : Cl kM_ask [vO 11 9, vI t, vI c, vI y, vI m, vI d, vI r, vI w] Hc = some (some (vI k), (((((((Hc.set 39 k t).set 40 k c).set 41 k y).set 42 k m).set 43 k d).set 44 k r).set 45 k w).set 9 49 (k + 1)) := by
        have five : Rn kM_ask 5 [vO 11 9, vI t, vI c, vI y, vI m, vI d, vI r, vI w] [] Hc = some (some (vI k), (((((((Hc.set 39 k t).set 40 k c).set 41 k y).set 42 k m).set 43 k d).set 44 k r).set 45 k w).set 9 49 (k + 1)) := by
          rw [E_M_ask_5, R_isDate S1, Z_bI, cb_t i, if_neg n10, R_in, Z_bI, bz_t a3, if_neg n10, R_in, Z_bI, bz_t a4, if_neg n10, c49, if_neg (by omega), lm42 Lb, ln39 Lb, gd_t (by omega), Z_hl, show (Hc.set 39 k t).M 9 49 = k from c49, lm43 L39, ln40 L39, gd_t (by omega), Z_hl, show ((Hc.set 39 k t).set 40 k c).M 9 49 = k from c49, lm44 L40, ln41 L40, gd_t (by omega), Z_hl, show (((Hc.set 39 k t).set 40 k c).set 41 k y).M 9 49 = k from c49, lm45 L41, ln42 L41, gd_t (by omega), Z_hl, show ((((Hc.set 39 k t).set 40 k c).set 41 k y).set 42 k m).M 9 49 = k from c49, lm46 L42, ln43 L42, gd_t (by omega), Z_hl, show (((((Hc.set 39 k t).set 40 k c).set 41 k y).set 42 k m).set 43 k d).M 9 49 = k from c49, lm47 L43, ln44 L43, gd_t (by omega), Z_hl, show ((((((Hc.set 39 k t).set 40 k c).set 41 k y).set 42 k m).set 43 k d).set 44 k r).M 9 49 = k from c49, lm48 L44, ln45 L44, gd_t (by omega), Z_hl, show (((((((Hc.set 39 k t).set 40 k c).set 41 k y).set 42 k m).set 43 k d).set 44 k r).set 45 k w).M 9 49 = k from c49, Z_wI (z := k + 1) (by omega), Z_hl, show ((((((((Hc.set 39 k t).set 40 k c).set 41 k y).set 42 k m).set 43 k d).set 44 k r).set 45 k w).set 9 49 (k + 1)).M 9 49 = k + 1 from rfl, Z_wI (by omega), show k + 1 - 1 = k by omega]
        rw [E_M_ask, R_in, Z_bI, bz_t a2, if_neg n10, c49]
        by_cases z : k ≤ 0
        · rw [if_pos z]; exact five
        · rw [if_neg z, if_pos (by omega), Z_wI (by omega), lm42 Lb, ln39 Lb, gd_t (by omega), cm 39 _ (by decide) (by decide), if_neg (by have : h.M 39 (k - 1) ≤ t := a5 (by omega); omega)]
          exact five
      have xb : Ew (Was k) h3 ((((((((Hc.set 39 k t).set 40 k c).set 41 k y).set 42 k m).set 43 k d).set 44 k r).set 45 k w).set 9 49 (k + 1)) := (((((((xa.tr (Ew.st _ _ (Or.inr (Or.inr ⟨by decide, rfl⟩)))).tr (Ew.st _ _ (Or.inr (Or.inr ⟨by decide, rfl⟩)))).tr (Ew.st _ _ (Or.inr (Or.inr ⟨by decide, rfl⟩)))).tr (Ew.st _ _ (Or.inr (Or.inr ⟨by decide, rfl⟩)))).tr (Ew.st _ _ (Or.inr (Or.inr ⟨by decide, rfl⟩)))).tr (Ew.st _ _ (Or.inr (Or.inr ⟨by decide, rfl⟩)))).tr (Ew.st _ _ (Or.inr (Or.inr ⟨by decide, rfl⟩)))).tr (Ew.st _ _ (Or.inr (Or.inl ⟨rfl, rfl⟩)))
      have q39 : ((((((((Hc.set 39 k t).set 40 k c).set 41 k y).set 42 k m).set 43 k d).set 44 k r).set 45 k w).set 9 49 (k + 1)).M 39 k = t := (Z_Mn (by omega)).trans ((Z_Mn (by omega)).trans ((Z_Mn (by omega)).trans ((Z_Mn (by omega)).trans ((Z_Mn (by omega)).trans ((Z_Mn (by omega)).trans ((Z_Mn (by omega)).trans (Z_Mt ..)))))))
      have q40 : ((((((((Hc.set 39 k t).set 40 k c).set 41 k y).set 42 k m).set 43 k d).set 44 k r).set 45 k w).set 9 49 (k + 1)).M 40 k = c := (Z_Mn (by omega)).trans ((Z_Mn (by omega)).trans ((Z_Mn (by omega)).trans ((Z_Mn (by omega)).trans ((Z_Mn (by omega)).trans ((Z_Mn (by omega)).trans (Z_Mt ..))))))
      have q41 : ((((((((Hc.set 39 k t).set 40 k c).set 41 k y).set 42 k m).set 43 k d).set 44 k r).set 45 k w).set 9 49 (k + 1)).M 41 k = y := (Z_Mn (by omega)).trans ((Z_Mn (by omega)).trans ((Z_Mn (by omega)).trans ((Z_Mn (by omega)).trans ((Z_Mn (by omega)).trans (Z_Mt ..)))))
      have q42 : ((((((((Hc.set 39 k t).set 40 k c).set 41 k y).set 42 k m).set 43 k d).set 44 k r).set 45 k w).set 9 49 (k + 1)).M 42 k = m := (Z_Mn (by omega)).trans ((Z_Mn (by omega)).trans ((Z_Mn (by omega)).trans ((Z_Mn (by omega)).trans (Z_Mt ..))))
      have q43 : ((((((((Hc.set 39 k t).set 40 k c).set 41 k y).set 42 k m).set 43 k d).set 44 k r).set 45 k w).set 9 49 (k + 1)).M 43 k = d := (Z_Mn (by omega)).trans ((Z_Mn (by omega)).trans ((Z_Mn (by omega)).trans (Z_Mt ..)))
      have q44 : ((((((((Hc.set 39 k t).set 40 k c).set 41 k y).set 42 k m).set 43 k d).set 44 k r).set 45 k w).set 9 49 (k + 1)).M 44 k = r := (Z_Mn (by omega)).trans ((Z_Mn (by omega)).trans (Z_Mt ..))
      have q45 : ((((((((Hc.set 39 k t).set 40 k c).set 41 k y).set 42 k m).set 43 k d).set 44 k r).set 45 k w).set 9 49 (k + 1)).M 45 k = w := (Z_Mn (by omega)).trans (Z_Mt ..)
      have q17 : ((((((((Hc.set 39 k t).set 40 k c).set 41 k y).set 42 k m).set 43 k d).set 44 k r).set 45 k w).set 9 49 (k + 1)).M 1 7 = k + 1 := by rw [← eHc]; rfl
      have q949 : ((((((((Hc.set 39 k t).set 40 k c).set 41 k y).set 42 k m).set 43 k d).set 44 k r).set 45 k w).set 9 49 (k + 1)).M 9 49 = k + 1 := rfl
      have q5 : ((((((((Hc.set 39 k t).set 40 k c).set 41 k y).set 42 k m).set 43 k d).set 44 k r).set 45 k w).set 9 49 (k + 1)).M 5 k = A := by
        refine (Z_Mn (by omega)).trans ((Z_Mn (by omega)).trans ((Z_Mn (by omega)).trans ((Z_Mn (by omega)).trans ((Z_Mn (by omega)).trans ((Z_Mn (by omega)).trans ((Z_Mn (by omega)).trans ((Z_Mn (by omega)).trans ?_)))))))
        rw [← eHc]
        exact (Z_Mn (by omega)).trans (Z_Mt ..)
      have c2 : ((((((((Hc.set 39 k t).set 40 k c).set 41 k y).set 42 k m).set 43 k d).set 44 k r).set 45 k w).set 9 49 (k + 1)).cnt = h.cnt + 2 := by rw [xb.cnt, cn3, cn1]
      generalize ((((((((Hc.set 39 k t).set 40 k c).set 41 k y).set 42 k m).set 43 k d).set 44 k r).set 45 k w).set 9 49 (k + 1)) = H2 at b xb q39 q40 q41 q42 q43 q44 q45 q17 q949 q5 c2
      have x := (xfg.mono (W := Was k) (fun _ _ w => w.elim) (Nat.le_refl _) (Nat.le_refl _)).tr xb.fr
      obtain ⟨L2, ic, ih, ig, K, e⟩ := I.wr x hw
      have hs : ∀ j, H2.M s j = h1.M s j := fun j => (xb.2 s j (by unfold Was; omega)).trans (xg.1 s j (by omega) fun w => w)
      have hA : ∀ j, H2.M A j = h3.M A j := fun j => xb.2 A j (by unfold Was; omega)
      have e18 := e 1 18 (by decide) (by unfold Was; omega)
      have e19 := e 1 19 (by decide) (by unfold Was; omega)
      have SP := spt_new (h2 := H2) I i es m0 m1 m2 m3 m4 m5 hs (e 3 c (by decide) (by unfold Was; omega)) e18 e19 (by rw [c2]; omega)
      have FA : ∀ j, 0 ≤ j → j ≤ 3 → Fz H2 A j := fun j j0 j1 => Fz_new I.2.2.2.2.2.2.2.2.2.2 c56 e18 e19 (by omega) (by omega) (by omega)
      obtain ⟨L, it, _, _, ia, ip, ie, ik, ib, iw, _⟩ := I
      refine ⟨_, _, _, Was k, a, b, x.mono (fun _ _ w => w) (by decide) (by decide), hw, ⟨T, n, nc, Ds, nh, Xs, L2, it.cg fun b j z => e b j ?_ ?_, ic, ih, ⟨by rw [q949, q17], by rw [q17]; omega, by rw [q17]; omega, fun p h0 hp => ?_, fun p p' h0 hp hq => ?_⟩, ip.cg K fun b j z => e b j ?_ ?_, ie.cg fun b j z => e b j ?_ ?_, ?_, ib.cg K fun b j z => e b j ?_ ?_, iw.cg K fun b j z => e b j ?_ ?_, ig⟩, by rw [← eHc]; exact xfg.2.2.2.2.2⟩
      · unfold rT at z; omega
      · unfold rT at z; unfold Was; omega
      · rw [q17] at hp
        by_cases z : p = k
        · unfold aik
          rw [z, q5, q39, q40, q41, q42, q43, q44, q45, hA 0, hA 1, hA 2, hA 3, g0, g1, g2, g3]
          exact ⟨SP, rfl, rfl, rfl, a2, a3, a4, tn, FA⟩
        · exact (ia.2.2.2.1 p h0 (by omega)).cx K (fun b zb => e b p (by omega) (by unfold Was; omega)) fun j j0 j1 => e 3 j (by omega) (by unfold Was; omega)
      · rw [q17] at hq
        have e39 : ∀ j, j ≠ k → H2.M 39 j = h.M 39 j := fun j jk => e 39 j (by omega) (by unfold Was; omega)
        by_cases z : p' = k
        · by_cases z1 : p = k
          · rw [z, z1]; exact Int.le_refl _
          · rw [z, q39, e39 p z1]
            have b1 := ia.2.2.2.2 p (k - 1) h0 (by omega) (by omega)
            have b2 := a5 (by omega)
            exact Int.le_trans b1 b2
        · rw [e39 p (by omega), e39 p' z]
          exact ia.2.2.2.2 p p' h0 hp (by omega)
      · unfold rP at z; omega
      · unfold rP at z; unfold Was; omega
      · unfold rE at z; omega
      · unfold rE at z; unfold Was; omega
      · unfold iK
        rw [q17, e 9 64 (by omega) (by unfold Was; omega), e 9 65 (by omega) (by unfold Was; omega), e 1 13 (by omega) (by unfold Was; omega), e 1 14 (by omega) (by unfold Was; omega), e 1 12 (by omega) (by unfold Was; omega)]
        exact ⟨ik.1, ik.2.1, ik.2.2.1, by have := ik.2.2.2.1; omega, ik.2.2.2.2.1, ik.2.2.2.2.2⟩
      · unfold rB at z; omega
      · unfold rB at z; unfold Was; omega
      · unfold rW at z; omega
      · unfold rW at z; unfold Was; omega
    · exact absurd i z
  · exact okw0 I (C_askNo I N) (R_askNo I N)
