/-! 11.sound: what the small machine says of a method, the real machine does (written by gen_sound.py) -/
def pt_ml : List pt_R := [mm_0, mm_1, mm_2, mm_3, mm_4, mm_5, mm_6, mm_7, mm_8, mm_9, mm_10, mm_11, mm_12, mm_13, mm_14, mm_15, mm_16, mm_17, mm_18, mm_19, mm_20, mm_21, mm_22, mm_23, mm_24, mm_25, mm_26, mm_27, mm_28, mm_29, mm_30, mm_31, mm_32, mm_33, mm_34, mm_35, mm_36, mm_37, mm_38, mm_39, mm_40, mm_41, mm_42, mm_43, mm_44, mm_45, mm_46, mm_47, mm_48, mm_49, mm_50, mm_51, mm_52, mm_53, mm_54, mm_55, mm_56, mm_57, mm_58, mm_59, mm_60, mm_61, mm_62, mm_63, mm_64, mm_65, mm_66, mm_67, mm_68, mm_69, mm_70, mm_71, mm_72, mm_73, mm_74, mm_75, mm_76, mm_77, mm_78, mm_79, mm_80, mm_81, mm_82, mm_83, mm_84, mm_85, mm_86, mm_87, mm_88, mm_89, mm_90, mm_91, mm_92, mm_93, mm_94, mm_95, mm_96, mm_97, mm_98, mm_99, mm_100, mm_101, mm_102, mm_103, mm_104, mm_105, mm_106, mm_107, mm_108, mm_109, mm_110, mm_111, mm_112, mm_113, mm_114, mm_115, mm_116, mm_117, mm_118, mm_119, mm_120, mm_121, mm_122, mm_123, mm_124, mm_125, mm_126, mm_127, mm_128, mm_129, mm_130, mm_131, mm_132, mm_133, mm_134, mm_135, mm_136, mm_137, mm_138, mm_139, mm_140, mm_141, mm_142, mm_143, mm_144, mm_145, mm_146, mm_147, mm_148, mm_149, mm_150, mm_151, mm_152, mm_153, mm_154, mm_155, mm_156, mm_157, mm_158, mm_159, mm_160, mm_161, mm_162, mm_163, mm_164, mm_165, mm_166, mm_167, mm_168, mm_169, mm_170, mm_171]
theorem pt_mt_eq (k : Nat) : pt_mt k = pt_ml[k]? := rfl
def pt_tl : List (Nat → Option pt_O) := [tt_0, tt_1, tt_2, tt_3, tt_4, tt_5, tt_6, tt_7, tt_8, tt_9, tt_10, tt_11, tt_12, tt_13, tt_14, tt_15, tt_16, tt_17, tt_18, tt_19, tt_20, tt_21, tt_22, tt_23, tt_24, tt_25, tt_26, tt_27, tt_28, tt_29, tt_30, tt_31, tt_32, tt_33, tt_34, tt_35, tt_36, tt_37, tt_38, tt_39, tt_40, tt_41, tt_42, tt_43, tt_44, tt_45, tt_46, tt_47, tt_48, tt_49, tt_50, tt_51, tt_52, tt_53, tt_54, tt_55, tt_56, tt_57, tt_58, tt_59, tt_60, tt_61, tt_62, tt_63, tt_64, tt_65, tt_66, tt_67, tt_68, tt_69, tt_70, tt_71, tt_72, tt_73, tt_74, tt_75, tt_76, tt_77, tt_78, tt_79, tt_80, tt_81, tt_82, tt_83, tt_84, tt_85, tt_86, tt_87, tt_88, tt_89, tt_90, tt_91, tt_92, tt_93, tt_94, tt_95, tt_96, tt_97, tt_98, tt_99, tt_100, tt_101, tt_102, tt_103, tt_104, tt_105, tt_106, tt_107, tt_108, tt_109, tt_110, tt_111, tt_112, tt_113, tt_114, tt_115, tt_116, tt_117, tt_118, tt_119, tt_120, tt_121, tt_122, tt_123, tt_124, tt_125, tt_126, tt_127, tt_128, tt_129, tt_130, tt_131, tt_132, tt_133, tt_134, tt_135, tt_136, tt_137, tt_138, tt_139, tt_140, tt_141, tt_142, tt_143, tt_144, tt_145, tt_146, tt_147, tt_148, tt_149, tt_150, tt_151, tt_152, tt_153, tt_154, tt_155, tt_156, tt_157, tt_158, tt_159, tt_160, tt_161, tt_162, tt_163, tt_164, tt_165, tt_166, tt_167, tt_168, tt_169, tt_170, tt_171]
def pt_T : Nat → Nat → Option pt_O := fun k => pt_tl.getD k (fun _ => none)
def pt_I : Nat → Nat := fun k => match pt_ml[k]? with | some r => r.2.2.1 | none => 0
def pt_F : List pt_R → List (Nat → Option pt_O) → Prop
  | [], [] => True
  | r :: rs, t :: ts => pt_TOK r t ∧ pt_F rs ts
  | _, _ => False
theorem pt_F_at : ∀ (rs : List pt_R) (ts : List (Nat → Option pt_O)), pt_F rs ts → ∀ (k : Nat) (r : pt_R), rs[k]? = some r → pt_TOK r (ts.getD k (fun _ => none))
  | [], [], _, k, r, h => by cases h
  | [], _ :: _, h, _, _, _ => h.elim
  | _ :: _, [], h, _, _, _ => h.elim
  | r0 :: rs, t :: ts, h, 0, r, hr => by
    cases hr
    exact h.1
  | r0 :: rs, t :: ts, h, k + 1, r, hr => pt_F_at rs ts h.2 k r hr
set_option maxRecDepth 4000 in
theorem pt_F_all : pt_F pt_ml pt_tl := ⟨tk_0, tk_1, tk_2, tk_3, tk_4, tk_5, tk_6, tk_7, tk_8, tk_9, tk_10, tk_11, tk_12, tk_13, tk_14, tk_15, tk_16, tk_17, tk_18, tk_19, tk_20, tk_21, tk_22, tk_23, tk_24, tk_25, tk_26, tk_27, tk_28, tk_29, tk_30, tk_31, tk_32, tk_33, tk_34, tk_35, tk_36, tk_37, tk_38, tk_39, tk_40, tk_41, tk_42, tk_43, tk_44, tk_45, tk_46, tk_47, tk_48, tk_49, tk_50, tk_51, tk_52, tk_53, tk_54, tk_55, tk_56, tk_57, tk_58, tk_59, tk_60, tk_61, tk_62, tk_63, tk_64, tk_65, tk_66, tk_67, tk_68, tk_69, tk_70, tk_71, tk_72, tk_73, tk_74, tk_75, tk_76, tk_77, tk_78, tk_79, tk_80, tk_81, tk_82, tk_83, tk_84, tk_85, tk_86, tk_87, tk_88, tk_89, tk_90, tk_91, tk_92, tk_93, tk_94, tk_95, tk_96, tk_97, tk_98, tk_99, tk_100, tk_101, tk_102, tk_103, tk_104, tk_105, tk_106, tk_107, tk_108, tk_109, tk_110, tk_111, tk_112, tk_113, tk_114, tk_115, tk_116, tk_117, tk_118, tk_119, tk_120, tk_121, tk_122, tk_123, tk_124, tk_125, tk_126, tk_127, tk_128, tk_129, tk_130, tk_131, tk_132, tk_133, tk_134, tk_135, tk_136, tk_137, tk_138, tk_139, tk_140, tk_141, tk_142, tk_143, tk_144, tk_145, tk_146, tk_147, tk_148, tk_149, tk_150, tk_151, tk_152, tk_153, tk_154, tk_155, tk_156, tk_157, tk_158, tk_159, tk_160, tk_161, tk_162, tk_163, tk_164, tk_165, tk_166, tk_167, tk_168, tk_169, tk_170, tk_171, trivial⟩
theorem pt_plain : ∀ r ∈ pt_ml, _root_.Jvm.plainName r.1.cls = true := by decide +kernel
noncomputable def Sp : Nat → pt_C := Classical.choose (pt_sp_ex pt_T pt_I)
theorem Sp_eq : Sp = pt_spF pt_T pt_I := Classical.choose_spec (pt_sp_ex pt_T pt_I)
/-- a call of method k: a run of its code -/
theorem Sp_of {d k n : Nat} {t : Nat → Option pt_O} {as : List pt_V} {m : pt_M} {Q : pt_Q} (ht : pt_T k = t) (hn : pt_I k = n) (hl : Nat.ble (pt_exp as).length n = true) (h : Go (Sp d) t Q 0 (pt_ini n as) [] m) : Sp (d + 1) k as m Q := by
  rw [Sp_eq] at h ⊢
  subst ht hn
  exact ⟨hl, h⟩
set_option maxHeartbeats 2000000 in
theorem pt_sound (G : pt_G) (J : pt_J G) (l : Launch) : ∀ d : Nat, pt_IH G l d (Sp d) := by
  intro d
  induction d with
  | zero =>
    intro k r as mm Q hr ok h
    rw [Sp_eq] at h
    exact h.elim
  | succ d ih =>
    intro k r as mm Q hr ok h
    have hr2 : pt_ml[k]? = some r := hr
    have hT : pt_TOK r (pt_T k) := pt_F_at _ _ pt_F_all k r hr2
    have hI : pt_I k = r.2.2.1 := by
      unfold pt_I
      rw [hr2]
    have hpl : _root_.Jvm.plainName r.1.cls = true := pt_plain r (List.mem_of_getElem? hr2)
    rw [Sp_eq] at h
    obtain ⟨hle, h⟩ := h
    rw [hI] at hle
    replace h : Go (pt_spF pt_T pt_I d) (pt_T k) Q 0 (pt_ini (pt_I k) as) [] mm := h
    rw [← Sp_eq, hI, Go_eq] at h
    refine Met.ofW (cc := r.2.1) (maxL := r.2.2.1) (ret := r.2.2.2) hpl rfl ?_
    intro p e s m args below meth c s₁ B hml hv
    obtain ⟨rfl, hP, hK, hSt⟩ := hv
    have hts := atoms_spec (ws := pt_ws r) B.pre
    have X : pt_X G p s m (as.map (pt_cv G)).toArray c r.2.1 r.1.cls r.2.2.1 := ⟨B.exec, B.bytes, hml, findClass_of_methodNamed B.named, fun w hw => hts w (List.mem_cons_of_mem _ hw), hK, J, hSt⟩
    have RM : pt_RM (pt_rm (d + 1)) d 0 0 := ⟨Nat.le_refl _, by show 60 * d + 60 ≤ 60 * (d + 1); omega, Nat.le_refl _, Nat.le_refl _⟩
    have hlen : (lg_sl (as.map (pt_cv G))).length ≤ r.2.2.1 := by
      rw [← pt_exp_len J as]
      exact ble_t hle
    have hent := lv_entry (as.map (pt_cv G)) (n := r.2.2.1) hlen
    rw [lg_entry_eq]
    have hls : lv_has ((lg_sl (as.map (pt_cv G)) ++ List.replicate (r.2.2.1 - (lg_sl (as.map (pt_cv G))).length) Slot.unset).toArray) r.2.2.1 (pt_lv G (pt_ini r.2.2.1 as)) := by
      refine ⟨hent.1, hent.2.1, fun q hq => ?_⟩
      obtain ⟨v, hv, hq2⟩ := pt_lv_of hq
      have h1 := pt_get_app _ _ _ _ (fun j => pt_get_rep _ j) hv
      rcases pt_exp_ini J as 0 [] rfl q.1 v h1 with z | z
      · cases z
      · have := hent.2.2 _ z
        rw [hq2]
        exact this
    have hok : ∀ (i : Nat) (v : pt_V), pt_get (pt_ini r.2.2.1 as) i = some v → pt_ok v := by
      intro i v hv
      have h1 := pt_get_app _ _ _ _ (fun j => pt_get_rep _ j) hv
      have key : ∀ (l : List pt_V), (∀ v ∈ l, pt_ok v) → ∀ i v, pt_get (pt_exp l) i = some v → pt_ok v := by
        intro l
        induction l with
        | nil => intro _ i v h; cases h
        | cons a l ih2 =>
          intro hl i v h
          rcases a with x | x | ⟨t, o⟩
          · cases i with
            | zero => cases h; trivial
            | succ i => exact ih2 (fun w hw => hl w (List.mem_cons_of_mem _ hw)) i v h
          · rcases i with _ | _ | i
            · cases h; trivial
            · cases h
            · exact ih2 (fun w hw => hl w (List.mem_cons_of_mem _ hw)) i v h
          · cases i with
            | zero => cases h; exact hl _ List.mem_cons_self
            | succ i => exact ih2 (fun w hw => hl w (List.mem_cons_of_mem _ hw)) i v h
      exact key as ok i v h1
    have hln : (pt_ini r.2.2.1 as).length = r.2.2.1 := by
      unfold pt_ini
      rw [List.length_append, List.length_replicate, pt_exp_len J as]
      omega
    refine h (pt_SK G p l e (pt_rm (d + 1)) s m (as.map (pt_cv G)).toArray below meth c r.2.2.1 0 0 (MQ below (pt_Post G Q) (as.map (pt_cv G)).toArray s 0 0 (pt_A G))) (fun K pc L S mm o ho hKP hop => ?_) (fun v hv => by cases hv) hok hln _ s.heap [] hls hP va_S.rf
    refine hT pc o ho G p l e (pt_rm (d + 1)) s m (as.map (pt_cv G)).toArray below meth c 0 0 _ d (Sp d) X ih RM K Q hKP ?_ L S mm hop
    intro pc ls H locs v mm2 hq hrt hP2 hS2
    have post : ∀ (hv : ∀ w, v = some w → pt_ok w) (t : State), t.heap = H → pt_Post G Q (as.map (pt_cv G)).toArray s (.returned (v.map (pt_cv G))) t := fun hv t ht => ⟨⟨v, mm2, rfl, hq, hv, by rw [ht]; exact hP2⟩, hS2.F ht⟩
    rcases v with _ | x | x | ⟨t, o⟩
    · exact W.vret (hlocks := B.notSynchronized) X.1 X.2.1 (by rw [B.returns]; exact hrt.2) (fun t ht _ => post (fun w hw => by cases hw) t ht) hS2.2.2 hrt.1
    · obtain ⟨h1, ty, h2, h3⟩ := hrt
      exact W.zret (hlocks := B.notSynchronized) X.1 X.2.1 (by rw [B.returns]; exact h2) h3 (fun t ht _ => post (fun w hw => by cases hw; trivial) t ht) hS2.2.2 h1
    · exact W.lret (hlocks := B.notSynchronized) X.1 X.2.1 (by rw [B.returns]; exact hrt.2) (fun t ht _ => post (fun w hw => by cases hw; trivial) t ht) hS2.2.2 hrt.1
    · exact hrt.elim
