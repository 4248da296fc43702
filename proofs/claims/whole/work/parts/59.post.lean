/-- a contract with a weaker end -/
theorem zCT_post {l : Launch} {G : zG} {lv : Nat} {y : MethodName} {cc : ByteArray} {maxL : Nat} {ret : Option FieldType} {av : List Value} {μ : zM} {P Q : Option Value → zM → Prop} (h : zCT l G lv y cc maxL ret av μ P) (hpq : ∀ rv μ', P rv μ' → Q rv μ') : zCT l G lv y cc maxL ret av μ Q := by
  unfold zCT Met at *
  intro p e ha hc hk s m args below hf happ hP hK
  obtain ⟨t, o, h1, h2, h3, ⟨⟨rv, μ', q1, q2, q3⟩, q4⟩, q5⟩ := h p e ha hc hk s m args below hf happ hP hK
  exact ⟨t, o, h1, h2, h3, ⟨⟨rv, μ', q1, hpq rv μ' q2, q3⟩, q4⟩, q5⟩
