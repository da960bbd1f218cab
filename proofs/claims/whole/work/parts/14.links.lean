theorem aw_in_0 : ∀ w ∈ wsL_law_r1, w ∈ wsL_law := fun _ h => (List.mem_append_left _ (List.mem_append_left _ (List.mem_append_left _ (List.mem_append_left _ (List.mem_append_left _ (List.mem_append_left _ (List.mem_append_left _ (List.mem_append_left _ (List.mem_append_left _ (List.mem_append_left _ (List.mem_append_left _ (List.mem_append_left _ (List.mem_append_left _ (List.mem_append_left _ (List.mem_append_left _ h)))))))))))))))
theorem aw_in_1 : ∀ w ∈ wsL_law_r2, w ∈ wsL_law := fun _ h => (List.mem_append_left _ (List.mem_append_left _ (List.mem_append_left _ (List.mem_append_left _ (List.mem_append_left _ (List.mem_append_left _ (List.mem_append_left _ (List.mem_append_left _ (List.mem_append_left _ (List.mem_append_left _ (List.mem_append_left _ (List.mem_append_left _ (List.mem_append_left _ (List.mem_append_left _ (List.mem_append_right _ (List.mem_append_left _ h))))))))))))))))
theorem aw_in_2 : ∀ w ∈ wsL_law_r3, w ∈ wsL_law := fun _ h => (List.mem_append_left _ (List.mem_append_left _ (List.mem_append_left _ (List.mem_append_left _ (List.mem_append_left _ (List.mem_append_left _ (List.mem_append_left _ (List.mem_append_left _ (List.mem_append_left _ (List.mem_append_left _ (List.mem_append_left _ (List.mem_append_left _ (List.mem_append_left _ (List.mem_append_left _ (List.mem_append_right _ (List.mem_append_right _ (List.mem_append_left _ h)))))))))))))))))
theorem aw_in_3 : ∀ w ∈ wsL_law_r4, w ∈ wsL_law := fun _ h => (List.mem_append_left _ (List.mem_append_left _ (List.mem_append_left _ (List.mem_append_left _ (List.mem_append_left _ (List.mem_append_left _ (List.mem_append_left _ (List.mem_append_left _ (List.mem_append_left _ (List.mem_append_left _ (List.mem_append_left _ (List.mem_append_left _ (List.mem_append_left _ (List.mem_append_left _ (List.mem_append_right _ (List.mem_append_right _ (List.mem_append_right _ (List.mem_append_left _ h))))))))))))))))))
theorem aw_in_4 : ∀ w ∈ wsL_law_r5, w ∈ wsL_law := fun _ h => (List.mem_append_left _ (List.mem_append_left _ (List.mem_append_left _ (List.mem_append_left _ (List.mem_append_left _ (List.mem_append_left _ (List.mem_append_left _ (List.mem_append_left _ (List.mem_append_left _ (List.mem_append_left _ (List.mem_append_left _ (List.mem_append_left _ (List.mem_append_left _ (List.mem_append_left _ (List.mem_append_right _ (List.mem_append_right _ (List.mem_append_right _ (List.mem_append_right _ (List.mem_append_left _ h)))))))))))))))))))
theorem aw_in_5 : ∀ w ∈ wsL_law_r6, w ∈ wsL_law := fun _ h => (List.mem_append_left _ (List.mem_append_left _ (List.mem_append_left _ (List.mem_append_left _ (List.mem_append_left _ (List.mem_append_left _ (List.mem_append_left _ (List.mem_append_left _ (List.mem_append_left _ (List.mem_append_left _ (List.mem_append_left _ (List.mem_append_left _ (List.mem_append_left _ (List.mem_append_left _ (List.mem_append_right _ (List.mem_append_right _ (List.mem_append_right _ (List.mem_append_right _ (List.mem_append_right _ (List.mem_append_left _ h))))))))))))))))))))
theorem aw_in_6 : ∀ w ∈ wsL_law_r7, w ∈ wsL_law := fun _ h => (List.mem_append_left _ (List.mem_append_left _ (List.mem_append_left _ (List.mem_append_left _ (List.mem_append_left _ (List.mem_append_left _ (List.mem_append_left _ (List.mem_append_left _ (List.mem_append_left _ (List.mem_append_left _ (List.mem_append_left _ (List.mem_append_left _ (List.mem_append_left _ (List.mem_append_left _ (List.mem_append_right _ (List.mem_append_right _ (List.mem_append_right _ (List.mem_append_right _ (List.mem_append_right _ (List.mem_append_right _ (List.mem_append_left _ h)))))))))))))))))))))
theorem aw_in_7 : ∀ w ∈ wsL_law_r8, w ∈ wsL_law := fun _ h => (List.mem_append_left _ (List.mem_append_left _ (List.mem_append_left _ (List.mem_append_left _ (List.mem_append_left _ (List.mem_append_left _ (List.mem_append_left _ (List.mem_append_left _ (List.mem_append_left _ (List.mem_append_left _ (List.mem_append_left _ (List.mem_append_left _ (List.mem_append_left _ (List.mem_append_left _ (List.mem_append_right _ (List.mem_append_right _ (List.mem_append_right _ (List.mem_append_right _ (List.mem_append_right _ (List.mem_append_right _ (List.mem_append_right _ (List.mem_append_left _ h))))))))))))))))))))))
theorem aw_in_8 : ∀ w ∈ wsL_law_r9, w ∈ wsL_law := fun _ h => (List.mem_append_left _ (List.mem_append_left _ (List.mem_append_left _ (List.mem_append_left _ (List.mem_append_left _ (List.mem_append_left _ (List.mem_append_left _ (List.mem_append_left _ (List.mem_append_left _ (List.mem_append_left _ (List.mem_append_left _ (List.mem_append_left _ (List.mem_append_left _ (List.mem_append_left _ (List.mem_append_right _ (List.mem_append_right _ (List.mem_append_right _ (List.mem_append_right _ (List.mem_append_right _ (List.mem_append_right _ (List.mem_append_right _ (List.mem_append_right _ (List.mem_append_left _ h)))))))))))))))))))))))
theorem aw_in_9 : ∀ w ∈ wsL_law_r10, w ∈ wsL_law := fun _ h => (List.mem_append_left _ (List.mem_append_left _ (List.mem_append_left _ (List.mem_append_left _ (List.mem_append_left _ (List.mem_append_left _ (List.mem_append_left _ (List.mem_append_left _ (List.mem_append_left _ (List.mem_append_left _ (List.mem_append_left _ (List.mem_append_left _ (List.mem_append_left _ (List.mem_append_left _ (List.mem_append_right _ (List.mem_append_right _ (List.mem_append_right _ (List.mem_append_right _ (List.mem_append_right _ (List.mem_append_right _ (List.mem_append_right _ (List.mem_append_right _ (List.mem_append_right _ (List.mem_append_left _ h))))))))))))))))))))))))
theorem aw_in_10 : ∀ w ∈ wsL_law_r11, w ∈ wsL_law := fun _ h => (List.mem_append_left _ (List.mem_append_left _ (List.mem_append_left _ (List.mem_append_left _ (List.mem_append_left _ (List.mem_append_left _ (List.mem_append_left _ (List.mem_append_left _ (List.mem_append_left _ (List.mem_append_left _ (List.mem_append_left _ (List.mem_append_left _ (List.mem_append_left _ (List.mem_append_left _ (List.mem_append_right _ (List.mem_append_right _ (List.mem_append_right _ (List.mem_append_right _ (List.mem_append_right _ (List.mem_append_right _ (List.mem_append_right _ (List.mem_append_right _ (List.mem_append_right _ (List.mem_append_right _ (List.mem_append_left _ h)))))))))))))))))))))))))
theorem aw_in_11 : ∀ w ∈ wsL_law_r12, w ∈ wsL_law := fun _ h => (List.mem_append_left _ (List.mem_append_left _ (List.mem_append_left _ (List.mem_append_left _ (List.mem_append_left _ (List.mem_append_left _ (List.mem_append_left _ (List.mem_append_left _ (List.mem_append_left _ (List.mem_append_left _ (List.mem_append_left _ (List.mem_append_left _ (List.mem_append_left _ (List.mem_append_left _ (List.mem_append_right _ (List.mem_append_right _ (List.mem_append_right _ (List.mem_append_right _ (List.mem_append_right _ (List.mem_append_right _ (List.mem_append_right _ (List.mem_append_right _ (List.mem_append_right _ (List.mem_append_right _ (List.mem_append_right _ (List.mem_append_left _ h))))))))))))))))))))))))))
theorem aw_in_12 : ∀ w ∈ wsL_law_r13, w ∈ wsL_law := fun _ h => (List.mem_append_left _ (List.mem_append_left _ (List.mem_append_left _ (List.mem_append_left _ (List.mem_append_left _ (List.mem_append_left _ (List.mem_append_left _ (List.mem_append_left _ (List.mem_append_left _ (List.mem_append_left _ (List.mem_append_left _ (List.mem_append_left _ (List.mem_append_left _ (List.mem_append_left _ (List.mem_append_right _ (List.mem_append_right _ (List.mem_append_right _ (List.mem_append_right _ (List.mem_append_right _ (List.mem_append_right _ (List.mem_append_right _ (List.mem_append_right _ (List.mem_append_right _ (List.mem_append_right _ (List.mem_append_right _ (List.mem_append_right _ (List.mem_append_left _ h)))))))))))))))))))))))))))
theorem aw_in_13 : ∀ w ∈ wsL_law_r14, w ∈ wsL_law := fun _ h => (List.mem_append_left _ (List.mem_append_left _ (List.mem_append_left _ (List.mem_append_left _ (List.mem_append_left _ (List.mem_append_left _ (List.mem_append_left _ (List.mem_append_left _ (List.mem_append_left _ (List.mem_append_left _ (List.mem_append_left _ (List.mem_append_left _ (List.mem_append_left _ (List.mem_append_left _ (List.mem_append_right _ (List.mem_append_right _ (List.mem_append_right _ (List.mem_append_right _ (List.mem_append_right _ (List.mem_append_right _ (List.mem_append_right _ (List.mem_append_right _ (List.mem_append_right _ (List.mem_append_right _ (List.mem_append_right _ (List.mem_append_right _ (List.mem_append_right _ (List.mem_append_left _ h))))))))))))))))))))))))))))
theorem aw_in_14 : ∀ w ∈ wsL_law_r15, w ∈ wsL_law := fun _ h => (List.mem_append_left _ (List.mem_append_left _ (List.mem_append_left _ (List.mem_append_left _ (List.mem_append_left _ (List.mem_append_left _ (List.mem_append_left _ (List.mem_append_left _ (List.mem_append_left _ (List.mem_append_left _ (List.mem_append_left _ (List.mem_append_left _ (List.mem_append_left _ (List.mem_append_left _ (List.mem_append_right _ (List.mem_append_right _ (List.mem_append_right _ (List.mem_append_right _ (List.mem_append_right _ (List.mem_append_right _ (List.mem_append_right _ (List.mem_append_right _ (List.mem_append_right _ (List.mem_append_right _ (List.mem_append_right _ (List.mem_append_right _ (List.mem_append_right _ (List.mem_append_right _ (List.mem_append_left _ h)))))))))))))))))))))))))))))
theorem aw_in_15 : ∀ w ∈ wsL_law_r16, w ∈ wsL_law := fun _ h => (List.mem_append_left _ (List.mem_append_left _ (List.mem_append_left _ (List.mem_append_left _ (List.mem_append_left _ (List.mem_append_left _ (List.mem_append_left _ (List.mem_append_left _ (List.mem_append_left _ (List.mem_append_left _ (List.mem_append_left _ (List.mem_append_left _ (List.mem_append_left _ (List.mem_append_left _ (List.mem_append_right _ (List.mem_append_right _ (List.mem_append_right _ (List.mem_append_right _ (List.mem_append_right _ (List.mem_append_right _ (List.mem_append_right _ (List.mem_append_right _ (List.mem_append_right _ (List.mem_append_right _ (List.mem_append_right _ (List.mem_append_right _ (List.mem_append_right _ (List.mem_append_right _ (List.mem_append_right _ (List.mem_append_left _ h))))))))))))))))))))))))))))))
theorem aw_in_16 : ∀ w ∈ wsL_law_r17, w ∈ wsL_law := fun _ h => (List.mem_append_left _ (List.mem_append_left _ (List.mem_append_left _ (List.mem_append_left _ (List.mem_append_left _ (List.mem_append_left _ (List.mem_append_left _ (List.mem_append_left _ (List.mem_append_left _ (List.mem_append_left _ (List.mem_append_left _ (List.mem_append_left _ (List.mem_append_left _ (List.mem_append_left _ (List.mem_append_right _ (List.mem_append_right _ (List.mem_append_right _ (List.mem_append_right _ (List.mem_append_right _ (List.mem_append_right _ (List.mem_append_right _ (List.mem_append_right _ (List.mem_append_right _ (List.mem_append_right _ (List.mem_append_right _ (List.mem_append_right _ (List.mem_append_right _ (List.mem_append_right _ (List.mem_append_right _ (List.mem_append_right _ (List.mem_append_left _ h)))))))))))))))))))))))))))))))
theorem aw_in_17 : ∀ w ∈ wsL_law_r18, w ∈ wsL_law := fun _ h => (List.mem_append_left _ (List.mem_append_left _ (List.mem_append_left _ (List.mem_append_left _ (List.mem_append_left _ (List.mem_append_left _ (List.mem_append_left _ (List.mem_append_left _ (List.mem_append_left _ (List.mem_append_left _ (List.mem_append_left _ (List.mem_append_left _ (List.mem_append_left _ (List.mem_append_left _ (List.mem_append_right _ (List.mem_append_right _ (List.mem_append_right _ (List.mem_append_right _ (List.mem_append_right _ (List.mem_append_right _ (List.mem_append_right _ (List.mem_append_right _ (List.mem_append_right _ (List.mem_append_right _ (List.mem_append_right _ (List.mem_append_right _ (List.mem_append_right _ (List.mem_append_right _ (List.mem_append_right _ (List.mem_append_right _ (List.mem_append_right _ (List.mem_append_left _ h))))))))))))))))))))))))))))))))
theorem aw_in_18 : ∀ w ∈ wsL_law_r19, w ∈ wsL_law := fun _ h => (List.mem_append_left _ (List.mem_append_left _ (List.mem_append_left _ (List.mem_append_left _ (List.mem_append_left _ (List.mem_append_left _ (List.mem_append_left _ (List.mem_append_left _ (List.mem_append_left _ (List.mem_append_left _ (List.mem_append_left _ (List.mem_append_left _ (List.mem_append_left _ (List.mem_append_left _ (List.mem_append_right _ (List.mem_append_right _ (List.mem_append_right _ (List.mem_append_right _ (List.mem_append_right _ (List.mem_append_right _ (List.mem_append_right _ (List.mem_append_right _ (List.mem_append_right _ (List.mem_append_right _ (List.mem_append_right _ (List.mem_append_right _ (List.mem_append_right _ (List.mem_append_right _ (List.mem_append_right _ (List.mem_append_right _ (List.mem_append_right _ (List.mem_append_right _ (List.mem_append_left _ h)))))))))))))))))))))))))))))))))
theorem aw_in_19 : ∀ w ∈ wsL_law_r20, w ∈ wsL_law := fun _ h => (List.mem_append_left _ (List.mem_append_left _ (List.mem_append_left _ (List.mem_append_left _ (List.mem_append_left _ (List.mem_append_left _ (List.mem_append_left _ (List.mem_append_left _ (List.mem_append_left _ (List.mem_append_left _ (List.mem_append_left _ (List.mem_append_left _ (List.mem_append_left _ (List.mem_append_left _ (List.mem_append_right _ (List.mem_append_right _ (List.mem_append_right _ (List.mem_append_right _ (List.mem_append_right _ (List.mem_append_right _ (List.mem_append_right _ (List.mem_append_right _ (List.mem_append_right _ (List.mem_append_right _ (List.mem_append_right _ (List.mem_append_right _ (List.mem_append_right _ (List.mem_append_right _ (List.mem_append_right _ (List.mem_append_right _ (List.mem_append_right _ (List.mem_append_right _ (List.mem_append_right _ (List.mem_append_left _ h))))))))))))))))))))))))))))))))))
theorem aw_in_20 : ∀ w ∈ wsL_law_r21, w ∈ wsL_law := fun _ h => (List.mem_append_left _ (List.mem_append_left _ (List.mem_append_left _ (List.mem_append_left _ (List.mem_append_left _ (List.mem_append_left _ (List.mem_append_left _ (List.mem_append_left _ (List.mem_append_left _ (List.mem_append_left _ (List.mem_append_left _ (List.mem_append_left _ (List.mem_append_left _ (List.mem_append_left _ (List.mem_append_right _ (List.mem_append_right _ (List.mem_append_right _ (List.mem_append_right _ (List.mem_append_right _ (List.mem_append_right _ (List.mem_append_right _ (List.mem_append_right _ (List.mem_append_right _ (List.mem_append_right _ (List.mem_append_right _ (List.mem_append_right _ (List.mem_append_right _ (List.mem_append_right _ (List.mem_append_right _ (List.mem_append_right _ (List.mem_append_right _ (List.mem_append_right _ (List.mem_append_right _ (List.mem_append_right _ (List.mem_append_left _ h)))))))))))))))))))))))))))))))))))
theorem aw_in_21 : ∀ w ∈ wsL_law_r22, w ∈ wsL_law := fun _ h => (List.mem_append_left _ (List.mem_append_left _ (List.mem_append_left _ (List.mem_append_left _ (List.mem_append_left _ (List.mem_append_left _ (List.mem_append_left _ (List.mem_append_left _ (List.mem_append_left _ (List.mem_append_left _ (List.mem_append_left _ (List.mem_append_left _ (List.mem_append_left _ (List.mem_append_left _ (List.mem_append_right _ (List.mem_append_right _ (List.mem_append_right _ (List.mem_append_right _ (List.mem_append_right _ (List.mem_append_right _ (List.mem_append_right _ (List.mem_append_right _ (List.mem_append_right _ (List.mem_append_right _ (List.mem_append_right _ (List.mem_append_right _ (List.mem_append_right _ (List.mem_append_right _ (List.mem_append_right _ (List.mem_append_right _ (List.mem_append_right _ (List.mem_append_right _ (List.mem_append_right _ (List.mem_append_right _ (List.mem_append_right _ (List.mem_append_left _ h))))))))))))))))))))))))))))))))))))
theorem aw_in_22 : ∀ w ∈ wsL_law_r23, w ∈ wsL_law := fun _ h => (List.mem_append_left _ (List.mem_append_left _ (List.mem_append_left _ (List.mem_append_left _ (List.mem_append_left _ (List.mem_append_left _ (List.mem_append_left _ (List.mem_append_left _ (List.mem_append_left _ (List.mem_append_left _ (List.mem_append_left _ (List.mem_append_left _ (List.mem_append_left _ (List.mem_append_left _ (List.mem_append_right _ (List.mem_append_right _ (List.mem_append_right _ (List.mem_append_right _ (List.mem_append_right _ (List.mem_append_right _ (List.mem_append_right _ (List.mem_append_right _ (List.mem_append_right _ (List.mem_append_right _ (List.mem_append_right _ (List.mem_append_right _ (List.mem_append_right _ (List.mem_append_right _ (List.mem_append_right _ (List.mem_append_right _ (List.mem_append_right _ (List.mem_append_right _ (List.mem_append_right _ (List.mem_append_right _ (List.mem_append_right _ (List.mem_append_right _ (List.mem_append_left _ h)))))))))))))))))))))))))))))))))))))
theorem aw_in_23 : ∀ w ∈ wsL_law_r24, w ∈ wsL_law := fun _ h => (List.mem_append_left _ (List.mem_append_left _ (List.mem_append_left _ (List.mem_append_left _ (List.mem_append_left _ (List.mem_append_left _ (List.mem_append_left _ (List.mem_append_left _ (List.mem_append_left _ (List.mem_append_left _ (List.mem_append_left _ (List.mem_append_left _ (List.mem_append_left _ (List.mem_append_left _ (List.mem_append_right _ (List.mem_append_right _ (List.mem_append_right _ (List.mem_append_right _ (List.mem_append_right _ (List.mem_append_right _ (List.mem_append_right _ (List.mem_append_right _ (List.mem_append_right _ (List.mem_append_right _ (List.mem_append_right _ (List.mem_append_right _ (List.mem_append_right _ (List.mem_append_right _ (List.mem_append_right _ (List.mem_append_right _ (List.mem_append_right _ (List.mem_append_right _ (List.mem_append_right _ (List.mem_append_right _ (List.mem_append_right _ (List.mem_append_right _ (List.mem_append_right _ (List.mem_append_left _ h))))))))))))))))))))))))))))))))))))))
theorem aw_in_24 : ∀ w ∈ wsL_law_r25, w ∈ wsL_law := fun _ h => (List.mem_append_left _ (List.mem_append_left _ (List.mem_append_left _ (List.mem_append_left _ (List.mem_append_left _ (List.mem_append_left _ (List.mem_append_left _ (List.mem_append_left _ (List.mem_append_left _ (List.mem_append_left _ (List.mem_append_left _ (List.mem_append_left _ (List.mem_append_left _ (List.mem_append_left _ (List.mem_append_right _ (List.mem_append_right _ (List.mem_append_right _ (List.mem_append_right _ (List.mem_append_right _ (List.mem_append_right _ (List.mem_append_right _ (List.mem_append_right _ (List.mem_append_right _ (List.mem_append_right _ (List.mem_append_right _ (List.mem_append_right _ (List.mem_append_right _ (List.mem_append_right _ (List.mem_append_right _ (List.mem_append_right _ (List.mem_append_right _ (List.mem_append_right _ (List.mem_append_right _ (List.mem_append_right _ (List.mem_append_right _ (List.mem_append_right _ (List.mem_append_right _ (List.mem_append_right _ (List.mem_append_left _ h)))))))))))))))))))))))))))))))))))))))
theorem aw_in_25 : ∀ w ∈ wsL_law_r26, w ∈ wsL_law := fun _ h => (List.mem_append_left _ (List.mem_append_left _ (List.mem_append_left _ (List.mem_append_left _ (List.mem_append_left _ (List.mem_append_left _ (List.mem_append_left _ (List.mem_append_left _ (List.mem_append_left _ (List.mem_append_left _ (List.mem_append_left _ (List.mem_append_left _ (List.mem_append_left _ (List.mem_append_left _ (List.mem_append_right _ (List.mem_append_right _ (List.mem_append_right _ (List.mem_append_right _ (List.mem_append_right _ (List.mem_append_right _ (List.mem_append_right _ (List.mem_append_right _ (List.mem_append_right _ (List.mem_append_right _ (List.mem_append_right _ (List.mem_append_right _ (List.mem_append_right _ (List.mem_append_right _ (List.mem_append_right _ (List.mem_append_right _ (List.mem_append_right _ (List.mem_append_right _ (List.mem_append_right _ (List.mem_append_right _ (List.mem_append_right _ (List.mem_append_right _ (List.mem_append_right _ (List.mem_append_right _ (List.mem_append_right _ (List.mem_append_left _ h))))))))))))))))))))))))))))))))))))))))
theorem aw_in_26 : ∀ w ∈ wsL_law_r27, w ∈ wsL_law := fun _ h => (List.mem_append_left _ (List.mem_append_left _ (List.mem_append_left _ (List.mem_append_left _ (List.mem_append_left _ (List.mem_append_left _ (List.mem_append_left _ (List.mem_append_left _ (List.mem_append_left _ (List.mem_append_left _ (List.mem_append_left _ (List.mem_append_left _ (List.mem_append_left _ (List.mem_append_left _ (List.mem_append_right _ (List.mem_append_right _ (List.mem_append_right _ (List.mem_append_right _ (List.mem_append_right _ (List.mem_append_right _ (List.mem_append_right _ (List.mem_append_right _ (List.mem_append_right _ (List.mem_append_right _ (List.mem_append_right _ (List.mem_append_right _ (List.mem_append_right _ (List.mem_append_right _ (List.mem_append_right _ (List.mem_append_right _ (List.mem_append_right _ (List.mem_append_right _ (List.mem_append_right _ (List.mem_append_right _ (List.mem_append_right _ (List.mem_append_right _ (List.mem_append_right _ (List.mem_append_right _ (List.mem_append_right _ (List.mem_append_right _ (List.mem_append_left _ h)))))))))))))))))))))))))))))))))))))))))
theorem aw_in_27 : ∀ w ∈ wsL_law_r28, w ∈ wsL_law := fun _ h => (List.mem_append_left _ (List.mem_append_left _ (List.mem_append_left _ (List.mem_append_left _ (List.mem_append_left _ (List.mem_append_left _ (List.mem_append_left _ (List.mem_append_left _ (List.mem_append_left _ (List.mem_append_left _ (List.mem_append_left _ (List.mem_append_left _ (List.mem_append_left _ (List.mem_append_left _ (List.mem_append_right _ (List.mem_append_right _ (List.mem_append_right _ (List.mem_append_right _ (List.mem_append_right _ (List.mem_append_right _ (List.mem_append_right _ (List.mem_append_right _ (List.mem_append_right _ (List.mem_append_right _ (List.mem_append_right _ (List.mem_append_right _ (List.mem_append_right _ (List.mem_append_right _ (List.mem_append_right _ (List.mem_append_right _ (List.mem_append_right _ (List.mem_append_right _ (List.mem_append_right _ (List.mem_append_right _ (List.mem_append_right _ (List.mem_append_right _ (List.mem_append_right _ (List.mem_append_right _ (List.mem_append_right _ (List.mem_append_right _ (List.mem_append_right _ (List.mem_append_left _ h))))))))))))))))))))))))))))))))))))))))))
theorem aw_in_28 : ∀ w ∈ wsL_law_r29, w ∈ wsL_law := fun _ h => (List.mem_append_left _ (List.mem_append_left _ (List.mem_append_left _ (List.mem_append_left _ (List.mem_append_left _ (List.mem_append_left _ (List.mem_append_left _ (List.mem_append_left _ (List.mem_append_left _ (List.mem_append_left _ (List.mem_append_left _ (List.mem_append_left _ (List.mem_append_left _ (List.mem_append_left _ (List.mem_append_right _ (List.mem_append_right _ (List.mem_append_right _ (List.mem_append_right _ (List.mem_append_right _ (List.mem_append_right _ (List.mem_append_right _ (List.mem_append_right _ (List.mem_append_right _ (List.mem_append_right _ (List.mem_append_right _ (List.mem_append_right _ (List.mem_append_right _ (List.mem_append_right _ (List.mem_append_right _ (List.mem_append_right _ (List.mem_append_right _ (List.mem_append_right _ (List.mem_append_right _ (List.mem_append_right _ (List.mem_append_right _ (List.mem_append_right _ (List.mem_append_right _ (List.mem_append_right _ (List.mem_append_right _ (List.mem_append_right _ (List.mem_append_right _ (List.mem_append_right _ (List.mem_append_left _ h)))))))))))))))))))))))))))))))))))))))))))
theorem aw_in_29 : ∀ w ∈ wsL_law_r30, w ∈ wsL_law := fun _ h => (List.mem_append_left _ (List.mem_append_left _ (List.mem_append_left _ (List.mem_append_left _ (List.mem_append_left _ (List.mem_append_left _ (List.mem_append_left _ (List.mem_append_left _ (List.mem_append_left _ (List.mem_append_left _ (List.mem_append_left _ (List.mem_append_left _ (List.mem_append_left _ (List.mem_append_left _ (List.mem_append_right _ (List.mem_append_right _ (List.mem_append_right _ (List.mem_append_right _ (List.mem_append_right _ (List.mem_append_right _ (List.mem_append_right _ (List.mem_append_right _ (List.mem_append_right _ (List.mem_append_right _ (List.mem_append_right _ (List.mem_append_right _ (List.mem_append_right _ (List.mem_append_right _ (List.mem_append_right _ (List.mem_append_right _ (List.mem_append_right _ (List.mem_append_right _ (List.mem_append_right _ (List.mem_append_right _ (List.mem_append_right _ (List.mem_append_right _ (List.mem_append_right _ (List.mem_append_right _ (List.mem_append_right _ (List.mem_append_right _ (List.mem_append_right _ (List.mem_append_right _ (List.mem_append_right _ (List.mem_append_left _ h))))))))))))))))))))))))))))))))))))))))))))
theorem aw_in_30 : ∀ w ∈ wsL_law_r31, w ∈ wsL_law := fun _ h => (List.mem_append_left _ (List.mem_append_left _ (List.mem_append_left _ (List.mem_append_left _ (List.mem_append_left _ (List.mem_append_left _ (List.mem_append_left _ (List.mem_append_left _ (List.mem_append_left _ (List.mem_append_left _ (List.mem_append_left _ (List.mem_append_left _ (List.mem_append_left _ (List.mem_append_left _ (List.mem_append_right _ (List.mem_append_right _ (List.mem_append_right _ (List.mem_append_right _ (List.mem_append_right _ (List.mem_append_right _ (List.mem_append_right _ (List.mem_append_right _ (List.mem_append_right _ (List.mem_append_right _ (List.mem_append_right _ (List.mem_append_right _ (List.mem_append_right _ (List.mem_append_right _ (List.mem_append_right _ (List.mem_append_right _ (List.mem_append_right _ (List.mem_append_right _ (List.mem_append_right _ (List.mem_append_right _ (List.mem_append_right _ (List.mem_append_right _ (List.mem_append_right _ (List.mem_append_right _ (List.mem_append_right _ (List.mem_append_right _ (List.mem_append_right _ (List.mem_append_right _ (List.mem_append_right _ (List.mem_append_right _ (List.mem_append_left _ h)))))))))))))))))))))))))))))))))))))))))))))
theorem aw_in_31 : ∀ w ∈ wsL_law_r32, w ∈ wsL_law := fun _ h => (List.mem_append_left _ (List.mem_append_left _ (List.mem_append_left _ (List.mem_append_left _ (List.mem_append_left _ (List.mem_append_left _ (List.mem_append_left _ (List.mem_append_left _ (List.mem_append_left _ (List.mem_append_left _ (List.mem_append_left _ (List.mem_append_left _ (List.mem_append_left _ (List.mem_append_left _ (List.mem_append_right _ (List.mem_append_right _ (List.mem_append_right _ (List.mem_append_right _ (List.mem_append_right _ (List.mem_append_right _ (List.mem_append_right _ (List.mem_append_right _ (List.mem_append_right _ (List.mem_append_right _ (List.mem_append_right _ (List.mem_append_right _ (List.mem_append_right _ (List.mem_append_right _ (List.mem_append_right _ (List.mem_append_right _ (List.mem_append_right _ (List.mem_append_right _ (List.mem_append_right _ (List.mem_append_right _ (List.mem_append_right _ (List.mem_append_right _ (List.mem_append_right _ (List.mem_append_right _ (List.mem_append_right _ (List.mem_append_right _ (List.mem_append_right _ (List.mem_append_right _ (List.mem_append_right _ (List.mem_append_right _ (List.mem_append_right _ (List.mem_append_left _ h))))))))))))))))))))))))))))))))))))))))))))))
theorem aw_in_32 : ∀ w ∈ wsL_law_r33, w ∈ wsL_law := fun _ h => (List.mem_append_left _ (List.mem_append_left _ (List.mem_append_left _ (List.mem_append_left _ (List.mem_append_left _ (List.mem_append_left _ (List.mem_append_left _ (List.mem_append_left _ (List.mem_append_left _ (List.mem_append_left _ (List.mem_append_left _ (List.mem_append_left _ (List.mem_append_left _ (List.mem_append_left _ (List.mem_append_right _ (List.mem_append_right _ (List.mem_append_right _ (List.mem_append_right _ (List.mem_append_right _ (List.mem_append_right _ (List.mem_append_right _ (List.mem_append_right _ (List.mem_append_right _ (List.mem_append_right _ (List.mem_append_right _ (List.mem_append_right _ (List.mem_append_right _ (List.mem_append_right _ (List.mem_append_right _ (List.mem_append_right _ (List.mem_append_right _ (List.mem_append_right _ (List.mem_append_right _ (List.mem_append_right _ (List.mem_append_right _ (List.mem_append_right _ (List.mem_append_right _ (List.mem_append_right _ (List.mem_append_right _ (List.mem_append_right _ (List.mem_append_right _ (List.mem_append_right _ (List.mem_append_right _ (List.mem_append_right _ (List.mem_append_right _ (List.mem_append_right _ (List.mem_append_left _ h)))))))))))))))))))))))))))))))))))))))))))))))
theorem aw_in_33 : ∀ w ∈ wsL_law_r34, w ∈ wsL_law := fun _ h => (List.mem_append_left _ (List.mem_append_left _ (List.mem_append_left _ (List.mem_append_left _ (List.mem_append_left _ (List.mem_append_left _ (List.mem_append_left _ (List.mem_append_left _ (List.mem_append_left _ (List.mem_append_left _ (List.mem_append_left _ (List.mem_append_left _ (List.mem_append_left _ (List.mem_append_left _ (List.mem_append_right _ (List.mem_append_right _ (List.mem_append_right _ (List.mem_append_right _ (List.mem_append_right _ (List.mem_append_right _ (List.mem_append_right _ (List.mem_append_right _ (List.mem_append_right _ (List.mem_append_right _ (List.mem_append_right _ (List.mem_append_right _ (List.mem_append_right _ (List.mem_append_right _ (List.mem_append_right _ (List.mem_append_right _ (List.mem_append_right _ (List.mem_append_right _ (List.mem_append_right _ (List.mem_append_right _ (List.mem_append_right _ (List.mem_append_right _ (List.mem_append_right _ (List.mem_append_right _ (List.mem_append_right _ (List.mem_append_right _ (List.mem_append_right _ (List.mem_append_right _ (List.mem_append_right _ (List.mem_append_right _ (List.mem_append_right _ (List.mem_append_right _ (List.mem_append_right _ (List.mem_append_left _ h))))))))))))))))))))))))))))))))))))))))))))))))
theorem aw_in_34 : ∀ w ∈ wsL_law_r35, w ∈ wsL_law := fun _ h => (List.mem_append_left _ (List.mem_append_left _ (List.mem_append_left _ (List.mem_append_left _ (List.mem_append_left _ (List.mem_append_left _ (List.mem_append_left _ (List.mem_append_left _ (List.mem_append_left _ (List.mem_append_left _ (List.mem_append_left _ (List.mem_append_left _ (List.mem_append_left _ (List.mem_append_left _ (List.mem_append_right _ (List.mem_append_right _ (List.mem_append_right _ (List.mem_append_right _ (List.mem_append_right _ (List.mem_append_right _ (List.mem_append_right _ (List.mem_append_right _ (List.mem_append_right _ (List.mem_append_right _ (List.mem_append_right _ (List.mem_append_right _ (List.mem_append_right _ (List.mem_append_right _ (List.mem_append_right _ (List.mem_append_right _ (List.mem_append_right _ (List.mem_append_right _ (List.mem_append_right _ (List.mem_append_right _ (List.mem_append_right _ (List.mem_append_right _ (List.mem_append_right _ (List.mem_append_right _ (List.mem_append_right _ (List.mem_append_right _ (List.mem_append_right _ (List.mem_append_right _ (List.mem_append_right _ (List.mem_append_right _ (List.mem_append_right _ (List.mem_append_right _ (List.mem_append_right _ (List.mem_append_right _ (List.mem_append_left _ h)))))))))))))))))))))))))))))))))))))))))))))))))
theorem aw_in_35 : ∀ w ∈ wsL_law_r36, w ∈ wsL_law := fun _ h => (List.mem_append_left _ (List.mem_append_left _ (List.mem_append_left _ (List.mem_append_left _ (List.mem_append_left _ (List.mem_append_left _ (List.mem_append_left _ (List.mem_append_left _ (List.mem_append_left _ (List.mem_append_left _ (List.mem_append_left _ (List.mem_append_left _ (List.mem_append_left _ (List.mem_append_left _ (List.mem_append_right _ (List.mem_append_right _ (List.mem_append_right _ (List.mem_append_right _ (List.mem_append_right _ (List.mem_append_right _ (List.mem_append_right _ (List.mem_append_right _ (List.mem_append_right _ (List.mem_append_right _ (List.mem_append_right _ (List.mem_append_right _ (List.mem_append_right _ (List.mem_append_right _ (List.mem_append_right _ (List.mem_append_right _ (List.mem_append_right _ (List.mem_append_right _ (List.mem_append_right _ (List.mem_append_right _ (List.mem_append_right _ (List.mem_append_right _ (List.mem_append_right _ (List.mem_append_right _ (List.mem_append_right _ (List.mem_append_right _ (List.mem_append_right _ (List.mem_append_right _ (List.mem_append_right _ (List.mem_append_right _ (List.mem_append_right _ (List.mem_append_right _ (List.mem_append_right _ (List.mem_append_right _ (List.mem_append_right _ (List.mem_append_left _ h))))))))))))))))))))))))))))))))))))))))))))))))))
theorem aw_in_36 : ∀ w ∈ wsL_law_r37, w ∈ wsL_law := fun _ h => (List.mem_append_left _ (List.mem_append_left _ (List.mem_append_left _ (List.mem_append_left _ (List.mem_append_left _ (List.mem_append_left _ (List.mem_append_left _ (List.mem_append_left _ (List.mem_append_left _ (List.mem_append_left _ (List.mem_append_left _ (List.mem_append_left _ (List.mem_append_left _ (List.mem_append_left _ (List.mem_append_right _ (List.mem_append_right _ (List.mem_append_right _ (List.mem_append_right _ (List.mem_append_right _ (List.mem_append_right _ (List.mem_append_right _ (List.mem_append_right _ (List.mem_append_right _ (List.mem_append_right _ (List.mem_append_right _ (List.mem_append_right _ (List.mem_append_right _ (List.mem_append_right _ (List.mem_append_right _ (List.mem_append_right _ (List.mem_append_right _ (List.mem_append_right _ (List.mem_append_right _ (List.mem_append_right _ (List.mem_append_right _ (List.mem_append_right _ (List.mem_append_right _ (List.mem_append_right _ (List.mem_append_right _ (List.mem_append_right _ (List.mem_append_right _ (List.mem_append_right _ (List.mem_append_right _ (List.mem_append_right _ (List.mem_append_right _ (List.mem_append_right _ (List.mem_append_right _ (List.mem_append_right _ (List.mem_append_right _ (List.mem_append_right _ (List.mem_append_left _ h)))))))))))))))))))))))))))))))))))))))))))))))))))
theorem aw_in_37 : ∀ w ∈ wsL_law_r38, w ∈ wsL_law := fun _ h => (List.mem_append_left _ (List.mem_append_left _ (List.mem_append_left _ (List.mem_append_left _ (List.mem_append_left _ (List.mem_append_left _ (List.mem_append_left _ (List.mem_append_left _ (List.mem_append_left _ (List.mem_append_left _ (List.mem_append_left _ (List.mem_append_left _ (List.mem_append_left _ (List.mem_append_left _ (List.mem_append_right _ (List.mem_append_right _ (List.mem_append_right _ (List.mem_append_right _ (List.mem_append_right _ (List.mem_append_right _ (List.mem_append_right _ (List.mem_append_right _ (List.mem_append_right _ (List.mem_append_right _ (List.mem_append_right _ (List.mem_append_right _ (List.mem_append_right _ (List.mem_append_right _ (List.mem_append_right _ (List.mem_append_right _ (List.mem_append_right _ (List.mem_append_right _ (List.mem_append_right _ (List.mem_append_right _ (List.mem_append_right _ (List.mem_append_right _ (List.mem_append_right _ (List.mem_append_right _ (List.mem_append_right _ (List.mem_append_right _ (List.mem_append_right _ (List.mem_append_right _ (List.mem_append_right _ (List.mem_append_right _ (List.mem_append_right _ (List.mem_append_right _ (List.mem_append_right _ (List.mem_append_right _ (List.mem_append_right _ (List.mem_append_right _ (List.mem_append_right _ (List.mem_append_left _ h))))))))))))))))))))))))))))))))))))))))))))))))))))
theorem aw_in_38 : ∀ w ∈ wsL_law_r39, w ∈ wsL_law := fun _ h => (List.mem_append_left _ (List.mem_append_left _ (List.mem_append_left _ (List.mem_append_left _ (List.mem_append_left _ (List.mem_append_left _ (List.mem_append_left _ (List.mem_append_left _ (List.mem_append_left _ (List.mem_append_left _ (List.mem_append_left _ (List.mem_append_left _ (List.mem_append_left _ (List.mem_append_left _ (List.mem_append_right _ (List.mem_append_right _ (List.mem_append_right _ (List.mem_append_right _ (List.mem_append_right _ (List.mem_append_right _ (List.mem_append_right _ (List.mem_append_right _ (List.mem_append_right _ (List.mem_append_right _ (List.mem_append_right _ (List.mem_append_right _ (List.mem_append_right _ (List.mem_append_right _ (List.mem_append_right _ (List.mem_append_right _ (List.mem_append_right _ (List.mem_append_right _ (List.mem_append_right _ (List.mem_append_right _ (List.mem_append_right _ (List.mem_append_right _ (List.mem_append_right _ (List.mem_append_right _ (List.mem_append_right _ (List.mem_append_right _ (List.mem_append_right _ (List.mem_append_right _ (List.mem_append_right _ (List.mem_append_right _ (List.mem_append_right _ (List.mem_append_right _ (List.mem_append_right _ (List.mem_append_right _ (List.mem_append_right _ (List.mem_append_right _ (List.mem_append_right _ (List.mem_append_right _ (List.mem_append_left _ h)))))))))))))))))))))))))))))))))))))))))))))))))))))
theorem aw_in_39 : ∀ w ∈ wsL_law_r40, w ∈ wsL_law := fun _ h => (List.mem_append_left _ (List.mem_append_left _ (List.mem_append_left _ (List.mem_append_left _ (List.mem_append_left _ (List.mem_append_left _ (List.mem_append_left _ (List.mem_append_left _ (List.mem_append_left _ (List.mem_append_left _ (List.mem_append_left _ (List.mem_append_left _ (List.mem_append_left _ (List.mem_append_left _ (List.mem_append_right _ (List.mem_append_right _ (List.mem_append_right _ (List.mem_append_right _ (List.mem_append_right _ (List.mem_append_right _ (List.mem_append_right _ (List.mem_append_right _ (List.mem_append_right _ (List.mem_append_right _ (List.mem_append_right _ (List.mem_append_right _ (List.mem_append_right _ (List.mem_append_right _ (List.mem_append_right _ (List.mem_append_right _ (List.mem_append_right _ (List.mem_append_right _ (List.mem_append_right _ (List.mem_append_right _ (List.mem_append_right _ (List.mem_append_right _ (List.mem_append_right _ (List.mem_append_right _ (List.mem_append_right _ (List.mem_append_right _ (List.mem_append_right _ (List.mem_append_right _ (List.mem_append_right _ (List.mem_append_right _ (List.mem_append_right _ (List.mem_append_right _ (List.mem_append_right _ (List.mem_append_right _ (List.mem_append_right _ (List.mem_append_right _ (List.mem_append_right _ (List.mem_append_right _ (List.mem_append_right _ (List.mem_append_left _ h))))))))))))))))))))))))))))))))))))))))))))))))))))))
theorem aw_in_40 : ∀ w ∈ wsL_law_r41, w ∈ wsL_law := fun _ h => (List.mem_append_left _ (List.mem_append_left _ (List.mem_append_left _ (List.mem_append_left _ (List.mem_append_left _ (List.mem_append_left _ (List.mem_append_left _ (List.mem_append_left _ (List.mem_append_left _ (List.mem_append_left _ (List.mem_append_left _ (List.mem_append_left _ (List.mem_append_left _ (List.mem_append_left _ (List.mem_append_right _ (List.mem_append_right _ (List.mem_append_right _ (List.mem_append_right _ (List.mem_append_right _ (List.mem_append_right _ (List.mem_append_right _ (List.mem_append_right _ (List.mem_append_right _ (List.mem_append_right _ (List.mem_append_right _ (List.mem_append_right _ (List.mem_append_right _ (List.mem_append_right _ (List.mem_append_right _ (List.mem_append_right _ (List.mem_append_right _ (List.mem_append_right _ (List.mem_append_right _ (List.mem_append_right _ (List.mem_append_right _ (List.mem_append_right _ (List.mem_append_right _ (List.mem_append_right _ (List.mem_append_right _ (List.mem_append_right _ (List.mem_append_right _ (List.mem_append_right _ (List.mem_append_right _ (List.mem_append_right _ (List.mem_append_right _ (List.mem_append_right _ (List.mem_append_right _ (List.mem_append_right _ (List.mem_append_right _ (List.mem_append_right _ (List.mem_append_right _ (List.mem_append_right _ (List.mem_append_right _ (List.mem_append_right _ (List.mem_append_left _ h)))))))))))))))))))))))))))))))))))))))))))))))))))))))
theorem aw_in_41 : ∀ w ∈ wsL_law_r42, w ∈ wsL_law := fun _ h => (List.mem_append_left _ (List.mem_append_left _ (List.mem_append_left _ (List.mem_append_left _ (List.mem_append_left _ (List.mem_append_left _ (List.mem_append_left _ (List.mem_append_left _ (List.mem_append_left _ (List.mem_append_left _ (List.mem_append_left _ (List.mem_append_left _ (List.mem_append_left _ (List.mem_append_left _ (List.mem_append_right _ (List.mem_append_right _ (List.mem_append_right _ (List.mem_append_right _ (List.mem_append_right _ (List.mem_append_right _ (List.mem_append_right _ (List.mem_append_right _ (List.mem_append_right _ (List.mem_append_right _ (List.mem_append_right _ (List.mem_append_right _ (List.mem_append_right _ (List.mem_append_right _ (List.mem_append_right _ (List.mem_append_right _ (List.mem_append_right _ (List.mem_append_right _ (List.mem_append_right _ (List.mem_append_right _ (List.mem_append_right _ (List.mem_append_right _ (List.mem_append_right _ (List.mem_append_right _ (List.mem_append_right _ (List.mem_append_right _ (List.mem_append_right _ (List.mem_append_right _ (List.mem_append_right _ (List.mem_append_right _ (List.mem_append_right _ (List.mem_append_right _ (List.mem_append_right _ (List.mem_append_right _ (List.mem_append_right _ (List.mem_append_right _ (List.mem_append_right _ (List.mem_append_right _ (List.mem_append_right _ (List.mem_append_right _ (List.mem_append_right _ (List.mem_append_left _ h))))))))))))))))))))))))))))))))))))))))))))))))))))))))
theorem aw_in_42 : ∀ w ∈ wsL_law_r43, w ∈ wsL_law := fun _ h => (List.mem_append_left _ (List.mem_append_left _ (List.mem_append_left _ (List.mem_append_left _ (List.mem_append_left _ (List.mem_append_left _ (List.mem_append_left _ (List.mem_append_left _ (List.mem_append_left _ (List.mem_append_left _ (List.mem_append_left _ (List.mem_append_left _ (List.mem_append_left _ (List.mem_append_left _ (List.mem_append_right _ (List.mem_append_right _ (List.mem_append_right _ (List.mem_append_right _ (List.mem_append_right _ (List.mem_append_right _ (List.mem_append_right _ (List.mem_append_right _ (List.mem_append_right _ (List.mem_append_right _ (List.mem_append_right _ (List.mem_append_right _ (List.mem_append_right _ (List.mem_append_right _ (List.mem_append_right _ (List.mem_append_right _ (List.mem_append_right _ (List.mem_append_right _ (List.mem_append_right _ (List.mem_append_right _ (List.mem_append_right _ (List.mem_append_right _ (List.mem_append_right _ (List.mem_append_right _ (List.mem_append_right _ (List.mem_append_right _ (List.mem_append_right _ (List.mem_append_right _ (List.mem_append_right _ (List.mem_append_right _ (List.mem_append_right _ (List.mem_append_right _ (List.mem_append_right _ (List.mem_append_right _ (List.mem_append_right _ (List.mem_append_right _ (List.mem_append_right _ (List.mem_append_right _ (List.mem_append_right _ (List.mem_append_right _ (List.mem_append_right _ (List.mem_append_right _ (List.mem_append_left _ h)))))))))))))))))))))))))))))))))))))))))))))))))))))))))
theorem aw_in_43 : ∀ w ∈ wsL_law_r44, w ∈ wsL_law := fun _ h => (List.mem_append_left _ (List.mem_append_left _ (List.mem_append_left _ (List.mem_append_left _ (List.mem_append_left _ (List.mem_append_left _ (List.mem_append_left _ (List.mem_append_left _ (List.mem_append_left _ (List.mem_append_left _ (List.mem_append_left _ (List.mem_append_left _ (List.mem_append_left _ (List.mem_append_left _ (List.mem_append_right _ (List.mem_append_right _ (List.mem_append_right _ (List.mem_append_right _ (List.mem_append_right _ (List.mem_append_right _ (List.mem_append_right _ (List.mem_append_right _ (List.mem_append_right _ (List.mem_append_right _ (List.mem_append_right _ (List.mem_append_right _ (List.mem_append_right _ (List.mem_append_right _ (List.mem_append_right _ (List.mem_append_right _ (List.mem_append_right _ (List.mem_append_right _ (List.mem_append_right _ (List.mem_append_right _ (List.mem_append_right _ (List.mem_append_right _ (List.mem_append_right _ (List.mem_append_right _ (List.mem_append_right _ (List.mem_append_right _ (List.mem_append_right _ (List.mem_append_right _ (List.mem_append_right _ (List.mem_append_right _ (List.mem_append_right _ (List.mem_append_right _ (List.mem_append_right _ (List.mem_append_right _ (List.mem_append_right _ (List.mem_append_right _ (List.mem_append_right _ (List.mem_append_right _ (List.mem_append_right _ (List.mem_append_right _ (List.mem_append_right _ (List.mem_append_right _ (List.mem_append_right _ (List.mem_append_left _ h))))))))))))))))))))))))))))))))))))))))))))))))))))))))))
theorem aw_in_44 : ∀ w ∈ wsL_law_r45, w ∈ wsL_law := fun _ h => (List.mem_append_left _ (List.mem_append_left _ (List.mem_append_left _ (List.mem_append_left _ (List.mem_append_left _ (List.mem_append_left _ (List.mem_append_left _ (List.mem_append_left _ (List.mem_append_left _ (List.mem_append_left _ (List.mem_append_left _ (List.mem_append_left _ (List.mem_append_left _ (List.mem_append_left _ (List.mem_append_right _ (List.mem_append_right _ (List.mem_append_right _ (List.mem_append_right _ (List.mem_append_right _ (List.mem_append_right _ (List.mem_append_right _ (List.mem_append_right _ (List.mem_append_right _ (List.mem_append_right _ (List.mem_append_right _ (List.mem_append_right _ (List.mem_append_right _ (List.mem_append_right _ (List.mem_append_right _ (List.mem_append_right _ (List.mem_append_right _ (List.mem_append_right _ (List.mem_append_right _ (List.mem_append_right _ (List.mem_append_right _ (List.mem_append_right _ (List.mem_append_right _ (List.mem_append_right _ (List.mem_append_right _ (List.mem_append_right _ (List.mem_append_right _ (List.mem_append_right _ (List.mem_append_right _ (List.mem_append_right _ (List.mem_append_right _ (List.mem_append_right _ (List.mem_append_right _ (List.mem_append_right _ (List.mem_append_right _ (List.mem_append_right _ (List.mem_append_right _ (List.mem_append_right _ (List.mem_append_right _ (List.mem_append_right _ (List.mem_append_right _ (List.mem_append_right _ (List.mem_append_right _ (List.mem_append_right _ (List.mem_append_left _ h)))))))))))))))))))))))))))))))))))))))))))))))))))))))))))
theorem aw_in_45 : ∀ w ∈ wsL_law_r46, w ∈ wsL_law := fun _ h => (List.mem_append_left _ (List.mem_append_left _ (List.mem_append_left _ (List.mem_append_left _ (List.mem_append_left _ (List.mem_append_left _ (List.mem_append_left _ (List.mem_append_left _ (List.mem_append_left _ (List.mem_append_left _ (List.mem_append_left _ (List.mem_append_left _ (List.mem_append_left _ (List.mem_append_left _ (List.mem_append_right _ (List.mem_append_right _ (List.mem_append_right _ (List.mem_append_right _ (List.mem_append_right _ (List.mem_append_right _ (List.mem_append_right _ (List.mem_append_right _ (List.mem_append_right _ (List.mem_append_right _ (List.mem_append_right _ (List.mem_append_right _ (List.mem_append_right _ (List.mem_append_right _ (List.mem_append_right _ (List.mem_append_right _ (List.mem_append_right _ (List.mem_append_right _ (List.mem_append_right _ (List.mem_append_right _ (List.mem_append_right _ (List.mem_append_right _ (List.mem_append_right _ (List.mem_append_right _ (List.mem_append_right _ (List.mem_append_right _ (List.mem_append_right _ (List.mem_append_right _ (List.mem_append_right _ (List.mem_append_right _ (List.mem_append_right _ (List.mem_append_right _ (List.mem_append_right _ (List.mem_append_right _ (List.mem_append_right _ (List.mem_append_right _ (List.mem_append_right _ (List.mem_append_right _ (List.mem_append_right _ (List.mem_append_right _ (List.mem_append_right _ (List.mem_append_right _ (List.mem_append_right _ (List.mem_append_right _ (List.mem_append_right _ (List.mem_append_left _ h))))))))))))))))))))))))))))))))))))))))))))))))))))))))))))
theorem aw_in_46 : ∀ w ∈ wsL_law_r47, w ∈ wsL_law := fun _ h => (List.mem_append_left _ (List.mem_append_left _ (List.mem_append_left _ (List.mem_append_left _ (List.mem_append_left _ (List.mem_append_left _ (List.mem_append_left _ (List.mem_append_left _ (List.mem_append_left _ (List.mem_append_left _ (List.mem_append_left _ (List.mem_append_left _ (List.mem_append_left _ (List.mem_append_left _ (List.mem_append_right _ (List.mem_append_right _ (List.mem_append_right _ (List.mem_append_right _ (List.mem_append_right _ (List.mem_append_right _ (List.mem_append_right _ (List.mem_append_right _ (List.mem_append_right _ (List.mem_append_right _ (List.mem_append_right _ (List.mem_append_right _ (List.mem_append_right _ (List.mem_append_right _ (List.mem_append_right _ (List.mem_append_right _ (List.mem_append_right _ (List.mem_append_right _ (List.mem_append_right _ (List.mem_append_right _ (List.mem_append_right _ (List.mem_append_right _ (List.mem_append_right _ (List.mem_append_right _ (List.mem_append_right _ (List.mem_append_right _ (List.mem_append_right _ (List.mem_append_right _ (List.mem_append_right _ (List.mem_append_right _ (List.mem_append_right _ (List.mem_append_right _ (List.mem_append_right _ (List.mem_append_right _ (List.mem_append_right _ (List.mem_append_right _ (List.mem_append_right _ (List.mem_append_right _ (List.mem_append_right _ (List.mem_append_right _ (List.mem_append_right _ (List.mem_append_right _ (List.mem_append_right _ (List.mem_append_right _ (List.mem_append_right _ (List.mem_append_right _ (List.mem_append_left _ h)))))))))))))))))))))))))))))))))))))))))))))))))))))))))))))
theorem aw_in_47 : ∀ w ∈ wsL_law_r48, w ∈ wsL_law := fun _ h => (List.mem_append_left _ (List.mem_append_left _ (List.mem_append_left _ (List.mem_append_left _ (List.mem_append_left _ (List.mem_append_left _ (List.mem_append_left _ (List.mem_append_left _ (List.mem_append_left _ (List.mem_append_left _ (List.mem_append_left _ (List.mem_append_left _ (List.mem_append_left _ (List.mem_append_left _ (List.mem_append_right _ (List.mem_append_right _ (List.mem_append_right _ (List.mem_append_right _ (List.mem_append_right _ (List.mem_append_right _ (List.mem_append_right _ (List.mem_append_right _ (List.mem_append_right _ (List.mem_append_right _ (List.mem_append_right _ (List.mem_append_right _ (List.mem_append_right _ (List.mem_append_right _ (List.mem_append_right _ (List.mem_append_right _ (List.mem_append_right _ (List.mem_append_right _ (List.mem_append_right _ (List.mem_append_right _ (List.mem_append_right _ (List.mem_append_right _ (List.mem_append_right _ (List.mem_append_right _ (List.mem_append_right _ (List.mem_append_right _ (List.mem_append_right _ (List.mem_append_right _ (List.mem_append_right _ (List.mem_append_right _ (List.mem_append_right _ (List.mem_append_right _ (List.mem_append_right _ (List.mem_append_right _ (List.mem_append_right _ (List.mem_append_right _ (List.mem_append_right _ (List.mem_append_right _ (List.mem_append_right _ (List.mem_append_right _ (List.mem_append_right _ (List.mem_append_right _ (List.mem_append_right _ (List.mem_append_right _ (List.mem_append_right _ (List.mem_append_right _ (List.mem_append_right _ (List.mem_append_left _ h))))))))))))))))))))))))))))))))))))))))))))))))))))))))))))))
theorem aw_in_48 : ∀ w ∈ wsL_law_r49, w ∈ wsL_law := fun _ h => (List.mem_append_left _ (List.mem_append_left _ (List.mem_append_left _ (List.mem_append_left _ (List.mem_append_left _ (List.mem_append_left _ (List.mem_append_left _ (List.mem_append_left _ (List.mem_append_left _ (List.mem_append_left _ (List.mem_append_left _ (List.mem_append_left _ (List.mem_append_left _ (List.mem_append_left _ (List.mem_append_right _ (List.mem_append_right _ (List.mem_append_right _ (List.mem_append_right _ (List.mem_append_right _ (List.mem_append_right _ (List.mem_append_right _ (List.mem_append_right _ (List.mem_append_right _ (List.mem_append_right _ (List.mem_append_right _ (List.mem_append_right _ (List.mem_append_right _ (List.mem_append_right _ (List.mem_append_right _ (List.mem_append_right _ (List.mem_append_right _ (List.mem_append_right _ (List.mem_append_right _ (List.mem_append_right _ (List.mem_append_right _ (List.mem_append_right _ (List.mem_append_right _ (List.mem_append_right _ (List.mem_append_right _ (List.mem_append_right _ (List.mem_append_right _ (List.mem_append_right _ (List.mem_append_right _ (List.mem_append_right _ (List.mem_append_right _ (List.mem_append_right _ (List.mem_append_right _ (List.mem_append_right _ (List.mem_append_right _ (List.mem_append_right _ (List.mem_append_right _ (List.mem_append_right _ (List.mem_append_right _ (List.mem_append_right _ (List.mem_append_right _ (List.mem_append_right _ (List.mem_append_right _ (List.mem_append_right _ (List.mem_append_right _ (List.mem_append_right _ (List.mem_append_right _ (List.mem_append_right _ (List.mem_append_left _ h)))))))))))))))))))))))))))))))))))))))))))))))))))))))))))))))
theorem aw_in_49 : ∀ w ∈ wsL_law_r50, w ∈ wsL_law := fun _ h => (List.mem_append_left _ (List.mem_append_left _ (List.mem_append_left _ (List.mem_append_left _ (List.mem_append_left _ (List.mem_append_left _ (List.mem_append_left _ (List.mem_append_left _ (List.mem_append_left _ (List.mem_append_left _ (List.mem_append_left _ (List.mem_append_left _ (List.mem_append_left _ (List.mem_append_left _ (List.mem_append_right _ (List.mem_append_right _ (List.mem_append_right _ (List.mem_append_right _ (List.mem_append_right _ (List.mem_append_right _ (List.mem_append_right _ (List.mem_append_right _ (List.mem_append_right _ (List.mem_append_right _ (List.mem_append_right _ (List.mem_append_right _ (List.mem_append_right _ (List.mem_append_right _ (List.mem_append_right _ (List.mem_append_right _ (List.mem_append_right _ (List.mem_append_right _ (List.mem_append_right _ (List.mem_append_right _ (List.mem_append_right _ (List.mem_append_right _ (List.mem_append_right _ (List.mem_append_right _ (List.mem_append_right _ (List.mem_append_right _ (List.mem_append_right _ (List.mem_append_right _ (List.mem_append_right _ (List.mem_append_right _ (List.mem_append_right _ (List.mem_append_right _ (List.mem_append_right _ (List.mem_append_right _ (List.mem_append_right _ (List.mem_append_right _ (List.mem_append_right _ (List.mem_append_right _ (List.mem_append_right _ (List.mem_append_right _ (List.mem_append_right _ (List.mem_append_right _ (List.mem_append_right _ (List.mem_append_right _ (List.mem_append_right _ (List.mem_append_right _ (List.mem_append_right _ (List.mem_append_right _ (List.mem_append_right _ (List.mem_append_left _ h))))))))))))))))))))))))))))))))))))))))))))))))))))))))))))))))
theorem aw_in_50 : ∀ w ∈ wsL_law_r51, w ∈ wsL_law := fun _ h => (List.mem_append_left _ (List.mem_append_left _ (List.mem_append_left _ (List.mem_append_left _ (List.mem_append_left _ (List.mem_append_left _ (List.mem_append_left _ (List.mem_append_left _ (List.mem_append_left _ (List.mem_append_left _ (List.mem_append_left _ (List.mem_append_left _ (List.mem_append_left _ (List.mem_append_left _ (List.mem_append_right _ (List.mem_append_right _ (List.mem_append_right _ (List.mem_append_right _ (List.mem_append_right _ (List.mem_append_right _ (List.mem_append_right _ (List.mem_append_right _ (List.mem_append_right _ (List.mem_append_right _ (List.mem_append_right _ (List.mem_append_right _ (List.mem_append_right _ (List.mem_append_right _ (List.mem_append_right _ (List.mem_append_right _ (List.mem_append_right _ (List.mem_append_right _ (List.mem_append_right _ (List.mem_append_right _ (List.mem_append_right _ (List.mem_append_right _ (List.mem_append_right _ (List.mem_append_right _ (List.mem_append_right _ (List.mem_append_right _ (List.mem_append_right _ (List.mem_append_right _ (List.mem_append_right _ (List.mem_append_right _ (List.mem_append_right _ (List.mem_append_right _ (List.mem_append_right _ (List.mem_append_right _ (List.mem_append_right _ (List.mem_append_right _ (List.mem_append_right _ (List.mem_append_right _ (List.mem_append_right _ (List.mem_append_right _ (List.mem_append_right _ (List.mem_append_right _ (List.mem_append_right _ (List.mem_append_right _ (List.mem_append_right _ (List.mem_append_right _ (List.mem_append_right _ (List.mem_append_right _ (List.mem_append_right _ (List.mem_append_right _ (List.mem_append_left _ h)))))))))))))))))))))))))))))))))))))))))))))))))))))))))))))))))
theorem aw_in_51 : ∀ w ∈ wsL_law_r52, w ∈ wsL_law := fun _ h => (List.mem_append_left _ (List.mem_append_left _ (List.mem_append_left _ (List.mem_append_left _ (List.mem_append_left _ (List.mem_append_left _ (List.mem_append_left _ (List.mem_append_left _ (List.mem_append_left _ (List.mem_append_left _ (List.mem_append_left _ (List.mem_append_left _ (List.mem_append_left _ (List.mem_append_left _ (List.mem_append_right _ (List.mem_append_right _ (List.mem_append_right _ (List.mem_append_right _ (List.mem_append_right _ (List.mem_append_right _ (List.mem_append_right _ (List.mem_append_right _ (List.mem_append_right _ (List.mem_append_right _ (List.mem_append_right _ (List.mem_append_right _ (List.mem_append_right _ (List.mem_append_right _ (List.mem_append_right _ (List.mem_append_right _ (List.mem_append_right _ (List.mem_append_right _ (List.mem_append_right _ (List.mem_append_right _ (List.mem_append_right _ (List.mem_append_right _ (List.mem_append_right _ (List.mem_append_right _ (List.mem_append_right _ (List.mem_append_right _ (List.mem_append_right _ (List.mem_append_right _ (List.mem_append_right _ (List.mem_append_right _ (List.mem_append_right _ (List.mem_append_right _ (List.mem_append_right _ (List.mem_append_right _ (List.mem_append_right _ (List.mem_append_right _ (List.mem_append_right _ (List.mem_append_right _ (List.mem_append_right _ (List.mem_append_right _ (List.mem_append_right _ (List.mem_append_right _ (List.mem_append_right _ (List.mem_append_right _ (List.mem_append_right _ (List.mem_append_right _ (List.mem_append_right _ (List.mem_append_right _ (List.mem_append_right _ (List.mem_append_right _ (List.mem_append_right _ (List.mem_append_left _ h))))))))))))))))))))))))))))))))))))))))))))))))))))))))))))))))))
theorem aw_in_52 : ∀ w ∈ wsL_law_r53, w ∈ wsL_law := fun _ h => (List.mem_append_left _ (List.mem_append_left _ (List.mem_append_left _ (List.mem_append_left _ (List.mem_append_left _ (List.mem_append_left _ (List.mem_append_left _ (List.mem_append_left _ (List.mem_append_left _ (List.mem_append_left _ (List.mem_append_left _ (List.mem_append_left _ (List.mem_append_left _ (List.mem_append_left _ (List.mem_append_right _ (List.mem_append_right _ (List.mem_append_right _ (List.mem_append_right _ (List.mem_append_right _ (List.mem_append_right _ (List.mem_append_right _ (List.mem_append_right _ (List.mem_append_right _ (List.mem_append_right _ (List.mem_append_right _ (List.mem_append_right _ (List.mem_append_right _ (List.mem_append_right _ (List.mem_append_right _ (List.mem_append_right _ (List.mem_append_right _ (List.mem_append_right _ (List.mem_append_right _ (List.mem_append_right _ (List.mem_append_right _ (List.mem_append_right _ (List.mem_append_right _ (List.mem_append_right _ (List.mem_append_right _ (List.mem_append_right _ (List.mem_append_right _ (List.mem_append_right _ (List.mem_append_right _ (List.mem_append_right _ (List.mem_append_right _ (List.mem_append_right _ (List.mem_append_right _ (List.mem_append_right _ (List.mem_append_right _ (List.mem_append_right _ (List.mem_append_right _ (List.mem_append_right _ (List.mem_append_right _ (List.mem_append_right _ (List.mem_append_right _ (List.mem_append_right _ (List.mem_append_right _ (List.mem_append_right _ (List.mem_append_right _ (List.mem_append_right _ (List.mem_append_right _ (List.mem_append_right _ (List.mem_append_right _ (List.mem_append_right _ (List.mem_append_right _ (List.mem_append_right _ (List.mem_append_left _ h)))))))))))))))))))))))))))))))))))))))))))))))))))))))))))))))))))
theorem aw_in_53 : ∀ w ∈ wsL_law_r54, w ∈ wsL_law := fun _ h => (List.mem_append_left _ (List.mem_append_left _ (List.mem_append_left _ (List.mem_append_left _ (List.mem_append_left _ (List.mem_append_left _ (List.mem_append_left _ (List.mem_append_left _ (List.mem_append_left _ (List.mem_append_left _ (List.mem_append_left _ (List.mem_append_left _ (List.mem_append_left _ (List.mem_append_left _ (List.mem_append_right _ (List.mem_append_right _ (List.mem_append_right _ (List.mem_append_right _ (List.mem_append_right _ (List.mem_append_right _ (List.mem_append_right _ (List.mem_append_right _ (List.mem_append_right _ (List.mem_append_right _ (List.mem_append_right _ (List.mem_append_right _ (List.mem_append_right _ (List.mem_append_right _ (List.mem_append_right _ (List.mem_append_right _ (List.mem_append_right _ (List.mem_append_right _ (List.mem_append_right _ (List.mem_append_right _ (List.mem_append_right _ (List.mem_append_right _ (List.mem_append_right _ (List.mem_append_right _ (List.mem_append_right _ (List.mem_append_right _ (List.mem_append_right _ (List.mem_append_right _ (List.mem_append_right _ (List.mem_append_right _ (List.mem_append_right _ (List.mem_append_right _ (List.mem_append_right _ (List.mem_append_right _ (List.mem_append_right _ (List.mem_append_right _ (List.mem_append_right _ (List.mem_append_right _ (List.mem_append_right _ (List.mem_append_right _ (List.mem_append_right _ (List.mem_append_right _ (List.mem_append_right _ (List.mem_append_right _ (List.mem_append_right _ (List.mem_append_right _ (List.mem_append_right _ (List.mem_append_right _ (List.mem_append_right _ (List.mem_append_right _ (List.mem_append_right _ (List.mem_append_right _ (List.mem_append_right _ (List.mem_append_left _ h))))))))))))))))))))))))))))))))))))))))))))))))))))))))))))))))))))
theorem aw_in_54 : ∀ w ∈ wsL_law_r55, w ∈ wsL_law := fun _ h => (List.mem_append_left _ (List.mem_append_left _ (List.mem_append_left _ (List.mem_append_left _ (List.mem_append_left _ (List.mem_append_left _ (List.mem_append_left _ (List.mem_append_left _ (List.mem_append_left _ (List.mem_append_left _ (List.mem_append_left _ (List.mem_append_left _ (List.mem_append_left _ (List.mem_append_left _ (List.mem_append_right _ (List.mem_append_right _ (List.mem_append_right _ (List.mem_append_right _ (List.mem_append_right _ (List.mem_append_right _ (List.mem_append_right _ (List.mem_append_right _ (List.mem_append_right _ (List.mem_append_right _ (List.mem_append_right _ (List.mem_append_right _ (List.mem_append_right _ (List.mem_append_right _ (List.mem_append_right _ (List.mem_append_right _ (List.mem_append_right _ (List.mem_append_right _ (List.mem_append_right _ (List.mem_append_right _ (List.mem_append_right _ (List.mem_append_right _ (List.mem_append_right _ (List.mem_append_right _ (List.mem_append_right _ (List.mem_append_right _ (List.mem_append_right _ (List.mem_append_right _ (List.mem_append_right _ (List.mem_append_right _ (List.mem_append_right _ (List.mem_append_right _ (List.mem_append_right _ (List.mem_append_right _ (List.mem_append_right _ (List.mem_append_right _ (List.mem_append_right _ (List.mem_append_right _ (List.mem_append_right _ (List.mem_append_right _ (List.mem_append_right _ (List.mem_append_right _ (List.mem_append_right _ (List.mem_append_right _ (List.mem_append_right _ (List.mem_append_right _ (List.mem_append_right _ (List.mem_append_right _ (List.mem_append_right _ (List.mem_append_right _ (List.mem_append_right _ (List.mem_append_right _ (List.mem_append_right _ (List.mem_append_right _ (List.mem_append_left _ h)))))))))))))))))))))))))))))))))))))))))))))))))))))))))))))))))))))
theorem aw_in_55 : ∀ w ∈ wsL_law_r56, w ∈ wsL_law := fun _ h => (List.mem_append_left _ (List.mem_append_left _ (List.mem_append_left _ (List.mem_append_left _ (List.mem_append_left _ (List.mem_append_left _ (List.mem_append_left _ (List.mem_append_left _ (List.mem_append_left _ (List.mem_append_left _ (List.mem_append_left _ (List.mem_append_left _ (List.mem_append_left _ (List.mem_append_left _ (List.mem_append_right _ (List.mem_append_right _ (List.mem_append_right _ (List.mem_append_right _ (List.mem_append_right _ (List.mem_append_right _ (List.mem_append_right _ (List.mem_append_right _ (List.mem_append_right _ (List.mem_append_right _ (List.mem_append_right _ (List.mem_append_right _ (List.mem_append_right _ (List.mem_append_right _ (List.mem_append_right _ (List.mem_append_right _ (List.mem_append_right _ (List.mem_append_right _ (List.mem_append_right _ (List.mem_append_right _ (List.mem_append_right _ (List.mem_append_right _ (List.mem_append_right _ (List.mem_append_right _ (List.mem_append_right _ (List.mem_append_right _ (List.mem_append_right _ (List.mem_append_right _ (List.mem_append_right _ (List.mem_append_right _ (List.mem_append_right _ (List.mem_append_right _ (List.mem_append_right _ (List.mem_append_right _ (List.mem_append_right _ (List.mem_append_right _ (List.mem_append_right _ (List.mem_append_right _ (List.mem_append_right _ (List.mem_append_right _ (List.mem_append_right _ (List.mem_append_right _ (List.mem_append_right _ (List.mem_append_right _ (List.mem_append_right _ (List.mem_append_right _ (List.mem_append_right _ (List.mem_append_right _ (List.mem_append_right _ (List.mem_append_right _ (List.mem_append_right _ (List.mem_append_right _ (List.mem_append_right _ (List.mem_append_right _ (List.mem_append_right _ (List.mem_append_left _ h))))))))))))))))))))))))))))))))))))))))))))))))))))))))))))))))))))))
theorem aw_in_56 : ∀ w ∈ wsL_law_r57, w ∈ wsL_law := fun _ h => (List.mem_append_left _ (List.mem_append_left _ (List.mem_append_left _ (List.mem_append_left _ (List.mem_append_left _ (List.mem_append_left _ (List.mem_append_left _ (List.mem_append_left _ (List.mem_append_left _ (List.mem_append_left _ (List.mem_append_left _ (List.mem_append_left _ (List.mem_append_left _ (List.mem_append_left _ (List.mem_append_right _ (List.mem_append_right _ (List.mem_append_right _ (List.mem_append_right _ (List.mem_append_right _ (List.mem_append_right _ (List.mem_append_right _ (List.mem_append_right _ (List.mem_append_right _ (List.mem_append_right _ (List.mem_append_right _ (List.mem_append_right _ (List.mem_append_right _ (List.mem_append_right _ (List.mem_append_right _ (List.mem_append_right _ (List.mem_append_right _ (List.mem_append_right _ (List.mem_append_right _ (List.mem_append_right _ (List.mem_append_right _ (List.mem_append_right _ (List.mem_append_right _ (List.mem_append_right _ (List.mem_append_right _ (List.mem_append_right _ (List.mem_append_right _ (List.mem_append_right _ (List.mem_append_right _ (List.mem_append_right _ (List.mem_append_right _ (List.mem_append_right _ (List.mem_append_right _ (List.mem_append_right _ (List.mem_append_right _ (List.mem_append_right _ (List.mem_append_right _ (List.mem_append_right _ (List.mem_append_right _ (List.mem_append_right _ (List.mem_append_right _ (List.mem_append_right _ (List.mem_append_right _ (List.mem_append_right _ (List.mem_append_right _ (List.mem_append_right _ (List.mem_append_right _ (List.mem_append_right _ (List.mem_append_right _ (List.mem_append_right _ (List.mem_append_right _ (List.mem_append_right _ (List.mem_append_right _ (List.mem_append_right _ (List.mem_append_right _ (List.mem_append_right _ (List.mem_append_left _ h)))))))))))))))))))))))))))))))))))))))))))))))))))))))))))))))))))))))
theorem aw_in_57 : ∀ w ∈ wsL_law_r58, w ∈ wsL_law := fun _ h => (List.mem_append_left _ (List.mem_append_left _ (List.mem_append_left _ (List.mem_append_left _ (List.mem_append_left _ (List.mem_append_left _ (List.mem_append_left _ (List.mem_append_left _ (List.mem_append_left _ (List.mem_append_left _ (List.mem_append_left _ (List.mem_append_left _ (List.mem_append_left _ (List.mem_append_left _ (List.mem_append_right _ (List.mem_append_right _ (List.mem_append_right _ (List.mem_append_right _ (List.mem_append_right _ (List.mem_append_right _ (List.mem_append_right _ (List.mem_append_right _ (List.mem_append_right _ (List.mem_append_right _ (List.mem_append_right _ (List.mem_append_right _ (List.mem_append_right _ (List.mem_append_right _ (List.mem_append_right _ (List.mem_append_right _ (List.mem_append_right _ (List.mem_append_right _ (List.mem_append_right _ (List.mem_append_right _ (List.mem_append_right _ (List.mem_append_right _ (List.mem_append_right _ (List.mem_append_right _ (List.mem_append_right _ (List.mem_append_right _ (List.mem_append_right _ (List.mem_append_right _ (List.mem_append_right _ (List.mem_append_right _ (List.mem_append_right _ (List.mem_append_right _ (List.mem_append_right _ (List.mem_append_right _ (List.mem_append_right _ (List.mem_append_right _ (List.mem_append_right _ (List.mem_append_right _ (List.mem_append_right _ (List.mem_append_right _ (List.mem_append_right _ (List.mem_append_right _ (List.mem_append_right _ (List.mem_append_right _ (List.mem_append_right _ (List.mem_append_right _ (List.mem_append_right _ (List.mem_append_right _ (List.mem_append_right _ (List.mem_append_right _ (List.mem_append_right _ (List.mem_append_right _ (List.mem_append_right _ (List.mem_append_right _ (List.mem_append_right _ (List.mem_append_right _ (List.mem_append_right _ (List.mem_append_left _ h))))))))))))))))))))))))))))))))))))))))))))))))))))))))))))))))))))))))
theorem aw_in_58 : ∀ w ∈ wsL_law_r59, w ∈ wsL_law := fun _ h => (List.mem_append_left _ (List.mem_append_left _ (List.mem_append_left _ (List.mem_append_left _ (List.mem_append_left _ (List.mem_append_left _ (List.mem_append_left _ (List.mem_append_left _ (List.mem_append_left _ (List.mem_append_left _ (List.mem_append_left _ (List.mem_append_left _ (List.mem_append_left _ (List.mem_append_left _ (List.mem_append_right _ (List.mem_append_right _ (List.mem_append_right _ (List.mem_append_right _ (List.mem_append_right _ (List.mem_append_right _ (List.mem_append_right _ (List.mem_append_right _ (List.mem_append_right _ (List.mem_append_right _ (List.mem_append_right _ (List.mem_append_right _ (List.mem_append_right _ (List.mem_append_right _ (List.mem_append_right _ (List.mem_append_right _ (List.mem_append_right _ (List.mem_append_right _ (List.mem_append_right _ (List.mem_append_right _ (List.mem_append_right _ (List.mem_append_right _ (List.mem_append_right _ (List.mem_append_right _ (List.mem_append_right _ (List.mem_append_right _ (List.mem_append_right _ (List.mem_append_right _ (List.mem_append_right _ (List.mem_append_right _ (List.mem_append_right _ (List.mem_append_right _ (List.mem_append_right _ (List.mem_append_right _ (List.mem_append_right _ (List.mem_append_right _ (List.mem_append_right _ (List.mem_append_right _ (List.mem_append_right _ (List.mem_append_right _ (List.mem_append_right _ (List.mem_append_right _ (List.mem_append_right _ (List.mem_append_right _ (List.mem_append_right _ (List.mem_append_right _ (List.mem_append_right _ (List.mem_append_right _ (List.mem_append_right _ (List.mem_append_right _ (List.mem_append_right _ (List.mem_append_right _ (List.mem_append_right _ (List.mem_append_right _ (List.mem_append_right _ (List.mem_append_right _ (List.mem_append_right _ (List.mem_append_right _ (List.mem_append_left _ h)))))))))))))))))))))))))))))))))))))))))))))))))))))))))))))))))))))))))
theorem aw_in_59 : ∀ w ∈ wsL_law_r60, w ∈ wsL_law := fun _ h => (List.mem_append_left _ (List.mem_append_left _ (List.mem_append_left _ (List.mem_append_left _ (List.mem_append_left _ (List.mem_append_left _ (List.mem_append_left _ (List.mem_append_left _ (List.mem_append_left _ (List.mem_append_left _ (List.mem_append_left _ (List.mem_append_left _ (List.mem_append_left _ (List.mem_append_left _ (List.mem_append_right _ (List.mem_append_right _ (List.mem_append_right _ (List.mem_append_right _ (List.mem_append_right _ (List.mem_append_right _ (List.mem_append_right _ (List.mem_append_right _ (List.mem_append_right _ (List.mem_append_right _ (List.mem_append_right _ (List.mem_append_right _ (List.mem_append_right _ (List.mem_append_right _ (List.mem_append_right _ (List.mem_append_right _ (List.mem_append_right _ (List.mem_append_right _ (List.mem_append_right _ (List.mem_append_right _ (List.mem_append_right _ (List.mem_append_right _ (List.mem_append_right _ (List.mem_append_right _ (List.mem_append_right _ (List.mem_append_right _ (List.mem_append_right _ (List.mem_append_right _ (List.mem_append_right _ (List.mem_append_right _ (List.mem_append_right _ (List.mem_append_right _ (List.mem_append_right _ (List.mem_append_right _ (List.mem_append_right _ (List.mem_append_right _ (List.mem_append_right _ (List.mem_append_right _ (List.mem_append_right _ (List.mem_append_right _ (List.mem_append_right _ (List.mem_append_right _ (List.mem_append_right _ (List.mem_append_right _ (List.mem_append_right _ (List.mem_append_right _ (List.mem_append_right _ (List.mem_append_right _ (List.mem_append_right _ (List.mem_append_right _ (List.mem_append_right _ (List.mem_append_right _ (List.mem_append_right _ (List.mem_append_right _ (List.mem_append_right _ (List.mem_append_right _ (List.mem_append_right _ (List.mem_append_right _ (List.mem_append_right _ (List.mem_append_left _ h))))))))))))))))))))))))))))))))))))))))))))))))))))))))))))))))))))))))))
theorem aw_in_60 : ∀ w ∈ wsL_law_r61, w ∈ wsL_law := fun _ h => (List.mem_append_left _ (List.mem_append_left _ (List.mem_append_left _ (List.mem_append_left _ (List.mem_append_left _ (List.mem_append_left _ (List.mem_append_left _ (List.mem_append_left _ (List.mem_append_left _ (List.mem_append_left _ (List.mem_append_left _ (List.mem_append_left _ (List.mem_append_left _ (List.mem_append_left _ (List.mem_append_right _ (List.mem_append_right _ (List.mem_append_right _ (List.mem_append_right _ (List.mem_append_right _ (List.mem_append_right _ (List.mem_append_right _ (List.mem_append_right _ (List.mem_append_right _ (List.mem_append_right _ (List.mem_append_right _ (List.mem_append_right _ (List.mem_append_right _ (List.mem_append_right _ (List.mem_append_right _ (List.mem_append_right _ (List.mem_append_right _ (List.mem_append_right _ (List.mem_append_right _ (List.mem_append_right _ (List.mem_append_right _ (List.mem_append_right _ (List.mem_append_right _ (List.mem_append_right _ (List.mem_append_right _ (List.mem_append_right _ (List.mem_append_right _ (List.mem_append_right _ (List.mem_append_right _ (List.mem_append_right _ (List.mem_append_right _ (List.mem_append_right _ (List.mem_append_right _ (List.mem_append_right _ (List.mem_append_right _ (List.mem_append_right _ (List.mem_append_right _ (List.mem_append_right _ (List.mem_append_right _ (List.mem_append_right _ (List.mem_append_right _ (List.mem_append_right _ (List.mem_append_right _ (List.mem_append_right _ (List.mem_append_right _ (List.mem_append_right _ (List.mem_append_right _ (List.mem_append_right _ (List.mem_append_right _ (List.mem_append_right _ (List.mem_append_right _ (List.mem_append_right _ (List.mem_append_right _ (List.mem_append_right _ (List.mem_append_right _ (List.mem_append_right _ (List.mem_append_right _ (List.mem_append_right _ (List.mem_append_right _ (List.mem_append_right _ (List.mem_append_left _ h)))))))))))))))))))))))))))))))))))))))))))))))))))))))))))))))))))))))))))
theorem aw_in_61 : ∀ w ∈ wsL_law_r62, w ∈ wsL_law := fun _ h => (List.mem_append_left _ (List.mem_append_left _ (List.mem_append_left _ (List.mem_append_left _ (List.mem_append_left _ (List.mem_append_left _ (List.mem_append_left _ (List.mem_append_left _ (List.mem_append_left _ (List.mem_append_left _ (List.mem_append_left _ (List.mem_append_left _ (List.mem_append_left _ (List.mem_append_left _ (List.mem_append_right _ (List.mem_append_right _ (List.mem_append_right _ (List.mem_append_right _ (List.mem_append_right _ (List.mem_append_right _ (List.mem_append_right _ (List.mem_append_right _ (List.mem_append_right _ (List.mem_append_right _ (List.mem_append_right _ (List.mem_append_right _ (List.mem_append_right _ (List.mem_append_right _ (List.mem_append_right _ (List.mem_append_right _ (List.mem_append_right _ (List.mem_append_right _ (List.mem_append_right _ (List.mem_append_right _ (List.mem_append_right _ (List.mem_append_right _ (List.mem_append_right _ (List.mem_append_right _ (List.mem_append_right _ (List.mem_append_right _ (List.mem_append_right _ (List.mem_append_right _ (List.mem_append_right _ (List.mem_append_right _ (List.mem_append_right _ (List.mem_append_right _ (List.mem_append_right _ (List.mem_append_right _ (List.mem_append_right _ (List.mem_append_right _ (List.mem_append_right _ (List.mem_append_right _ (List.mem_append_right _ (List.mem_append_right _ (List.mem_append_right _ (List.mem_append_right _ (List.mem_append_right _ (List.mem_append_right _ (List.mem_append_right _ (List.mem_append_right _ (List.mem_append_right _ (List.mem_append_right _ (List.mem_append_right _ (List.mem_append_right _ (List.mem_append_right _ (List.mem_append_right _ (List.mem_append_right _ (List.mem_append_right _ (List.mem_append_right _ (List.mem_append_right _ (List.mem_append_right _ (List.mem_append_right _ (List.mem_append_right _ (List.mem_append_right _ (List.mem_append_right _ (List.mem_append_left _ h))))))))))))))))))))))))))))))))))))))))))))))))))))))))))))))))))))))))))))
theorem aw_in_62 : ∀ w ∈ wsL_law_r63, w ∈ wsL_law := fun _ h => (List.mem_append_left _ (List.mem_append_left _ (List.mem_append_left _ (List.mem_append_left _ (List.mem_append_left _ (List.mem_append_left _ (List.mem_append_left _ (List.mem_append_left _ (List.mem_append_left _ (List.mem_append_left _ (List.mem_append_left _ (List.mem_append_left _ (List.mem_append_left _ (List.mem_append_left _ (List.mem_append_right _ (List.mem_append_right _ (List.mem_append_right _ (List.mem_append_right _ (List.mem_append_right _ (List.mem_append_right _ (List.mem_append_right _ (List.mem_append_right _ (List.mem_append_right _ (List.mem_append_right _ (List.mem_append_right _ (List.mem_append_right _ (List.mem_append_right _ (List.mem_append_right _ (List.mem_append_right _ (List.mem_append_right _ (List.mem_append_right _ (List.mem_append_right _ (List.mem_append_right _ (List.mem_append_right _ (List.mem_append_right _ (List.mem_append_right _ (List.mem_append_right _ (List.mem_append_right _ (List.mem_append_right _ (List.mem_append_right _ (List.mem_append_right _ (List.mem_append_right _ (List.mem_append_right _ (List.mem_append_right _ (List.mem_append_right _ (List.mem_append_right _ (List.mem_append_right _ (List.mem_append_right _ (List.mem_append_right _ (List.mem_append_right _ (List.mem_append_right _ (List.mem_append_right _ (List.mem_append_right _ (List.mem_append_right _ (List.mem_append_right _ (List.mem_append_right _ (List.mem_append_right _ (List.mem_append_right _ (List.mem_append_right _ (List.mem_append_right _ (List.mem_append_right _ (List.mem_append_right _ (List.mem_append_right _ (List.mem_append_right _ (List.mem_append_right _ (List.mem_append_right _ (List.mem_append_right _ (List.mem_append_right _ (List.mem_append_right _ (List.mem_append_right _ (List.mem_append_right _ (List.mem_append_right _ (List.mem_append_right _ (List.mem_append_right _ (List.mem_append_right _ (List.mem_append_right _ (List.mem_append_left _ h)))))))))))))))))))))))))))))))))))))))))))))))))))))))))))))))))))))))))))))
theorem aw_in_63 : ∀ w ∈ wsL_law_r64, w ∈ wsL_law := fun _ h => (List.mem_append_left _ (List.mem_append_left _ (List.mem_append_left _ (List.mem_append_left _ (List.mem_append_left _ (List.mem_append_left _ (List.mem_append_left _ (List.mem_append_left _ (List.mem_append_left _ (List.mem_append_left _ (List.mem_append_left _ (List.mem_append_left _ (List.mem_append_left _ (List.mem_append_left _ (List.mem_append_right _ (List.mem_append_right _ (List.mem_append_right _ (List.mem_append_right _ (List.mem_append_right _ (List.mem_append_right _ (List.mem_append_right _ (List.mem_append_right _ (List.mem_append_right _ (List.mem_append_right _ (List.mem_append_right _ (List.mem_append_right _ (List.mem_append_right _ (List.mem_append_right _ (List.mem_append_right _ (List.mem_append_right _ (List.mem_append_right _ (List.mem_append_right _ (List.mem_append_right _ (List.mem_append_right _ (List.mem_append_right _ (List.mem_append_right _ (List.mem_append_right _ (List.mem_append_right _ (List.mem_append_right _ (List.mem_append_right _ (List.mem_append_right _ (List.mem_append_right _ (List.mem_append_right _ (List.mem_append_right _ (List.mem_append_right _ (List.mem_append_right _ (List.mem_append_right _ (List.mem_append_right _ (List.mem_append_right _ (List.mem_append_right _ (List.mem_append_right _ (List.mem_append_right _ (List.mem_append_right _ (List.mem_append_right _ (List.mem_append_right _ (List.mem_append_right _ (List.mem_append_right _ (List.mem_append_right _ (List.mem_append_right _ (List.mem_append_right _ (List.mem_append_right _ (List.mem_append_right _ (List.mem_append_right _ (List.mem_append_right _ (List.mem_append_right _ (List.mem_append_right _ (List.mem_append_right _ (List.mem_append_right _ (List.mem_append_right _ (List.mem_append_right _ (List.mem_append_right _ (List.mem_append_right _ (List.mem_append_right _ (List.mem_append_right _ (List.mem_append_right _ (List.mem_append_right _ (List.mem_append_right _ (List.mem_append_left _ h))))))))))))))))))))))))))))))))))))))))))))))))))))))))))))))))))))))))))))))
theorem aw_in_64 : ∀ w ∈ wsL_law_r65, w ∈ wsL_law := fun _ h => (List.mem_append_left _ (List.mem_append_left _ (List.mem_append_left _ (List.mem_append_left _ (List.mem_append_left _ (List.mem_append_left _ (List.mem_append_left _ (List.mem_append_left _ (List.mem_append_left _ (List.mem_append_left _ (List.mem_append_left _ (List.mem_append_left _ (List.mem_append_left _ (List.mem_append_left _ (List.mem_append_right _ (List.mem_append_right _ (List.mem_append_right _ (List.mem_append_right _ (List.mem_append_right _ (List.mem_append_right _ (List.mem_append_right _ (List.mem_append_right _ (List.mem_append_right _ (List.mem_append_right _ (List.mem_append_right _ (List.mem_append_right _ (List.mem_append_right _ (List.mem_append_right _ (List.mem_append_right _ (List.mem_append_right _ (List.mem_append_right _ (List.mem_append_right _ (List.mem_append_right _ (List.mem_append_right _ (List.mem_append_right _ (List.mem_append_right _ (List.mem_append_right _ (List.mem_append_right _ (List.mem_append_right _ (List.mem_append_right _ (List.mem_append_right _ (List.mem_append_right _ (List.mem_append_right _ (List.mem_append_right _ (List.mem_append_right _ (List.mem_append_right _ (List.mem_append_right _ (List.mem_append_right _ (List.mem_append_right _ (List.mem_append_right _ (List.mem_append_right _ (List.mem_append_right _ (List.mem_append_right _ (List.mem_append_right _ (List.mem_append_right _ (List.mem_append_right _ (List.mem_append_right _ (List.mem_append_right _ (List.mem_append_right _ (List.mem_append_right _ (List.mem_append_right _ (List.mem_append_right _ (List.mem_append_right _ (List.mem_append_right _ (List.mem_append_right _ (List.mem_append_right _ (List.mem_append_right _ (List.mem_append_right _ (List.mem_append_right _ (List.mem_append_right _ (List.mem_append_right _ (List.mem_append_right _ (List.mem_append_right _ (List.mem_append_right _ (List.mem_append_right _ (List.mem_append_right _ (List.mem_append_right _ (List.mem_append_right _ (List.mem_append_left _ h)))))))))))))))))))))))))))))))))))))))))))))))))))))))))))))))))))))))))))))))
theorem aw_in_65 : ∀ w ∈ wsL_law_r66, w ∈ wsL_law := fun _ h => (List.mem_append_left _ (List.mem_append_left _ (List.mem_append_left _ (List.mem_append_left _ (List.mem_append_left _ (List.mem_append_left _ (List.mem_append_left _ (List.mem_append_left _ (List.mem_append_left _ (List.mem_append_left _ (List.mem_append_left _ (List.mem_append_left _ (List.mem_append_left _ (List.mem_append_left _ (List.mem_append_right _ (List.mem_append_right _ (List.mem_append_right _ (List.mem_append_right _ (List.mem_append_right _ (List.mem_append_right _ (List.mem_append_right _ (List.mem_append_right _ (List.mem_append_right _ (List.mem_append_right _ (List.mem_append_right _ (List.mem_append_right _ (List.mem_append_right _ (List.mem_append_right _ (List.mem_append_right _ (List.mem_append_right _ (List.mem_append_right _ (List.mem_append_right _ (List.mem_append_right _ (List.mem_append_right _ (List.mem_append_right _ (List.mem_append_right _ (List.mem_append_right _ (List.mem_append_right _ (List.mem_append_right _ (List.mem_append_right _ (List.mem_append_right _ (List.mem_append_right _ (List.mem_append_right _ (List.mem_append_right _ (List.mem_append_right _ (List.mem_append_right _ (List.mem_append_right _ (List.mem_append_right _ (List.mem_append_right _ (List.mem_append_right _ (List.mem_append_right _ (List.mem_append_right _ (List.mem_append_right _ (List.mem_append_right _ (List.mem_append_right _ (List.mem_append_right _ (List.mem_append_right _ (List.mem_append_right _ (List.mem_append_right _ (List.mem_append_right _ (List.mem_append_right _ (List.mem_append_right _ (List.mem_append_right _ (List.mem_append_right _ (List.mem_append_right _ (List.mem_append_right _ (List.mem_append_right _ (List.mem_append_right _ (List.mem_append_right _ (List.mem_append_right _ (List.mem_append_right _ (List.mem_append_right _ (List.mem_append_right _ (List.mem_append_right _ (List.mem_append_right _ (List.mem_append_right _ (List.mem_append_right _ (List.mem_append_right _ (List.mem_append_right _ h)))))))))))))))))))))))))))))))))))))))))))))))))))))))))))))))))))))))))))))))
/-! ===== the worlds: cells by number ===== -/
def aw_kept : Nat → Option Nat := fun i => if i < 3 then some (136 + 2 * i) else none
def aw_answ : Nat → Option Nat := fun i => if i < 24 then some (107 + i) else none
def xA : List aw_H := [.inl (11, [.inr 1, .inr 3, .inr 5, .inr 7, .inr 8, .inr 24, .inr 41, .inr 58, .inr 63, .inr 69, .inr 75, .inr 81, .inr 82, .inr 87, .inr 92, .inr 97, .inr 105, .inl 0, .inl 0]),
  .inl (9, [.inr 2, .inl 0]),
  .inr (1, 800, aw_no),
  .inl (9, [.inr 4, .inl 0]),
  .inr (1, 800, aw_no),
  .inl (9, [.inr 6, .inl 0]),
  .inr (1, 800, aw_no),
  .inr (5, 3, aw_kept),
  .inl (7, [.inr 9, .inr 11, .inr 15, .inr 16, .inr 17, .inr 18, .inr 19, .inr 20, .inr 21, .inr 22, .inr 23, .inl 0, .inl 0, .inl 0, .inl 0, .inl 0]),
  .inl (9, [.inr 10, .inl 0]),
  .inr (1, 800, aw_no),
  .inl (0, [.inr 12, .inr 13, .inr 14, .inl 0]),
  .inr (0, 24, aw_no),
  .inr (0, 24, aw_no),
  .inr (0, 24, aw_no),
  .inr (0, 76, aw_no),
  .inr (0, 76, aw_no),
  .inr (0, 76, aw_no),
  .inr (0, 76, aw_no),
  .inr (0, 76, aw_no),
  .inr (0, 76, aw_no),
  .inr (0, 76, aw_no),
  .inr (0, 76, aw_no),
  .inr (0, 76, aw_no),
  .inl (3, [.inr 25, .inr 29, .inr 30, .inr 31, .inr 32, .inr 33, .inr 34, .inr 35, .inr 36, .inr 37, .inr 38, .inr 39, .inr 40, .inl 0, .inl 0]),
  .inl (0, [.inr 26, .inr 27, .inr 28, .inl 0]),
  .inr (0, 24, aw_no),
  .inr (0, 24, aw_no),
  .inr (0, 24, aw_no),
  .inr (0, 128, aw_no),
  .inr (0, 128, aw_no),
  .inr (0, 128, aw_no),
  .inr (0, 128, aw_no),
  .inr (0, 128, aw_no),
  .inr (0, 128, aw_no),
  .inr (0, 128, aw_no),
  .inr (0, 128, aw_no),
  .inr (0, 128, aw_no),
  .inr (0, 256, aw_no),
  .inr (0, 129, aw_no),
  .inr (0, 16, aw_no),
  .inl (1, [.inr 42, .inr 47, .inr 48, .inr 49, .inr 50, .inr 51, .inr 52, .inr 53, .inr 54, .inr 55, .inr 56, .inr 57, .inl 0, .inl 0]),
  .inl (2, [.inr 43, .inr 44, .inr 45, .inr 46]),
  .inr (0, 128, aw_no),
  .inr (0, 128, aw_no),
  .inr (0, 128, aw_no),
  .inr (0, 128, aw_no),
  .inr (0, 128, aw_no),
  .inr (0, 128, aw_no),
  .inr (0, 128, aw_no),
  .inr (0, 128, aw_no),
  .inr (0, 128, aw_no),
  .inr (0, 128, aw_no),
  .inr (0, 128, aw_no),
  .inr (0, 128, aw_no),
  .inr (0, 128, aw_no),
  .inr (0, 128, aw_no),
  .inr (0, 128, aw_no),
  .inl (4, [.inr 59, .inr 60, .inr 61, .inr 62, .inl 0]),
  .inr (3, 128, aw_no),
  .inr (3, 128, aw_no),
  .inr (0, 128, aw_no),
  .inr (0, 128, aw_no),
  .inl (6, [.inr 64, .inr 65, .inr 66, .inr 67, .inr 68, .inl 0]),
  .inr (0, 128, aw_no),
  .inr (0, 128, aw_no),
  .inr (0, 128, aw_no),
  .inr (0, 24, aw_no),
  .inr (0, 24, aw_no),
  .inl (6, [.inr 70, .inr 71, .inr 72, .inr 73, .inr 74, .inl 0]),
  .inr (0, 128, aw_no),
  .inr (0, 128, aw_no),
  .inr (0, 128, aw_no),
  .inr (0, 24, aw_no),
  .inr (0, 24, aw_no),
  .inl (6, [.inr 76, .inr 77, .inr 78, .inr 79, .inr 80, .inl 0]),
  .inr (0, 128, aw_no),
  .inr (0, 128, aw_no),
  .inr (0, 128, aw_no),
  .inr (0, 24, aw_no),
  .inr (0, 24, aw_no),
  .inr (0, 26, aw_no),
  .inl (8, [.inr 83, .inr 84, .inr 85, .inr 86, .inl 0, .inl 0, .inl 0, .inl 0, .inl 0, .inl 0]),
  .inr (0, 26, aw_no),
  .inr (0, 40, aw_no),
  .inr (0, 24, aw_no),
  .inr (0, 24, aw_no),
  .inl (8, [.inr 88, .inr 89, .inr 90, .inr 91, .inl 0, .inl 0, .inl 0, .inl 0, .inl 0, .inl 0]),
  .inr (0, 26, aw_no),
  .inr (0, 40, aw_no),
  .inr (0, 24, aw_no),
  .inr (0, 24, aw_no),
  .inl (8, [.inr 93, .inr 94, .inr 95, .inr 96, .inl 0, .inl 0, .inl 0, .inl 0, .inl 0, .inl 0]),
  .inr (0, 26, aw_no),
  .inr (0, 40, aw_no),
  .inr (0, 24, aw_no),
  .inr (0, 24, aw_no),
  .inl (10, [.inr 98, .inl 2, .inl 2, .inl 2, .inl 2, .inl 2, .inl 2, .inl 1, .inl 0, .inl 0]),
  .inr (0, 128, aw_no),
  .inr (3, 128, aw_no),
  .inr (0, 128, aw_no),
  .inr (0, 128, aw_no),
  .inr (3, 128, aw_no),
  .inr (0, 128, aw_no),
  .inr (0, 128, aw_no),
  .inl (5, [.inr 106, .inr 131, .inr 132, .inr 133, .inr 134, .inr 135, .inl 0, .inl 0, .inl 0, .inl 0, .inl 0, .inl 0, .inl 0]),
  .inr (4, 24, aw_answ),
  .inr (0, 4, aw_no),
  .inr (0, 4, aw_no),
  .inr (0, 4, aw_no),
  .inr (0, 4, aw_no),
  .inr (0, 4, aw_no),
  .inr (0, 4, aw_no),
  .inr (0, 4, aw_no),
  .inr (0, 4, aw_no),
  .inr (0, 4, aw_no),
  .inr (0, 4, aw_no),
  .inr (0, 4, aw_no),
  .inr (0, 4, aw_no),
  .inr (0, 4, aw_no),
  .inr (0, 4, aw_no),
  .inr (0, 4, aw_no),
  .inr (0, 4, aw_no),
  .inr (0, 4, aw_no),
  .inr (0, 4, aw_no),
  .inr (0, 4, aw_no),
  .inr (0, 4, aw_no),
  .inr (0, 4, aw_no),
  .inr (0, 4, aw_no),
  .inr (0, 4, aw_no),
  .inr (0, 4, aw_no),
  .inr (0, 12, aw_no),
  .inr (0, 12, aw_no),
  .inr (0, 12, aw_no),
  .inr (0, 12, aw_no),
  .inr (0, 12, aw_no),
  .inl (9, [.inr 137, .inl 0]),
  .inr (1, 800, aw_no),
  .inl (9, [.inr 139, .inl 0]),
  .inr (1, 800, aw_no),
  .inl (9, [.inr 141, .inl 0]),
  .inr (1, 800, aw_no)]
theorem xA_0 : xA[0]? = some (.inl (11, [.inr 1, .inr 3, .inr 5, .inr 7, .inr 8, .inr 24, .inr 41, .inr 58, .inr 63, .inr 69, .inr 75, .inr 81, .inr 82, .inr 87, .inr 92, .inr 97, .inr 105, .inl 0, .inl 0])) := rfl
theorem xA_1 : xA[1]? = some (.inl (9, [.inr 2, .inl 0])) := rfl
theorem xA_2 : xA[2]? = some (.inr (1, 800, aw_no)) := rfl
theorem xA_3 : xA[3]? = some (.inl (9, [.inr 4, .inl 0])) := rfl
theorem xA_4 : xA[4]? = some (.inr (1, 800, aw_no)) := rfl
theorem xA_5 : xA[5]? = some (.inl (9, [.inr 6, .inl 0])) := rfl
theorem xA_6 : xA[6]? = some (.inr (1, 800, aw_no)) := rfl
theorem xA_7 : xA[7]? = some (.inr (5, 3, aw_kept)) := rfl
theorem xA_8 : xA[8]? = some (.inl (7, [.inr 9, .inr 11, .inr 15, .inr 16, .inr 17, .inr 18, .inr 19, .inr 20, .inr 21, .inr 22, .inr 23, .inl 0, .inl 0, .inl 0, .inl 0, .inl 0])) := rfl
theorem xA_9 : xA[9]? = some (.inl (9, [.inr 10, .inl 0])) := rfl
theorem xA_10 : xA[10]? = some (.inr (1, 800, aw_no)) := rfl
theorem xA_11 : xA[11]? = some (.inl (0, [.inr 12, .inr 13, .inr 14, .inl 0])) := rfl
theorem xA_12 : xA[12]? = some (.inr (0, 24, aw_no)) := rfl
theorem xA_13 : xA[13]? = some (.inr (0, 24, aw_no)) := rfl
theorem xA_14 : xA[14]? = some (.inr (0, 24, aw_no)) := rfl
theorem xA_15 : xA[15]? = some (.inr (0, 76, aw_no)) := rfl
theorem xA_16 : xA[16]? = some (.inr (0, 76, aw_no)) := rfl
theorem xA_17 : xA[17]? = some (.inr (0, 76, aw_no)) := rfl
theorem xA_18 : xA[18]? = some (.inr (0, 76, aw_no)) := rfl
theorem xA_19 : xA[19]? = some (.inr (0, 76, aw_no)) := rfl
theorem xA_20 : xA[20]? = some (.inr (0, 76, aw_no)) := rfl
theorem xA_21 : xA[21]? = some (.inr (0, 76, aw_no)) := rfl
theorem xA_22 : xA[22]? = some (.inr (0, 76, aw_no)) := rfl
theorem xA_23 : xA[23]? = some (.inr (0, 76, aw_no)) := rfl
theorem xA_24 : xA[24]? = some (.inl (3, [.inr 25, .inr 29, .inr 30, .inr 31, .inr 32, .inr 33, .inr 34, .inr 35, .inr 36, .inr 37, .inr 38, .inr 39, .inr 40, .inl 0, .inl 0])) := rfl
theorem xA_25 : xA[25]? = some (.inl (0, [.inr 26, .inr 27, .inr 28, .inl 0])) := rfl
theorem xA_26 : xA[26]? = some (.inr (0, 24, aw_no)) := rfl
theorem xA_27 : xA[27]? = some (.inr (0, 24, aw_no)) := rfl
theorem xA_28 : xA[28]? = some (.inr (0, 24, aw_no)) := rfl
theorem xA_29 : xA[29]? = some (.inr (0, 128, aw_no)) := rfl
theorem xA_30 : xA[30]? = some (.inr (0, 128, aw_no)) := rfl
theorem xA_31 : xA[31]? = some (.inr (0, 128, aw_no)) := rfl
theorem xA_32 : xA[32]? = some (.inr (0, 128, aw_no)) := rfl
theorem xA_33 : xA[33]? = some (.inr (0, 128, aw_no)) := rfl
theorem xA_34 : xA[34]? = some (.inr (0, 128, aw_no)) := rfl
theorem xA_35 : xA[35]? = some (.inr (0, 128, aw_no)) := rfl
theorem xA_36 : xA[36]? = some (.inr (0, 128, aw_no)) := rfl
theorem xA_37 : xA[37]? = some (.inr (0, 128, aw_no)) := rfl
theorem xA_38 : xA[38]? = some (.inr (0, 256, aw_no)) := rfl
theorem xA_39 : xA[39]? = some (.inr (0, 129, aw_no)) := rfl
theorem xA_40 : xA[40]? = some (.inr (0, 16, aw_no)) := rfl
theorem xA_41 : xA[41]? = some (.inl (1, [.inr 42, .inr 47, .inr 48, .inr 49, .inr 50, .inr 51, .inr 52, .inr 53, .inr 54, .inr 55, .inr 56, .inr 57, .inl 0, .inl 0])) := rfl
theorem xA_42 : xA[42]? = some (.inl (2, [.inr 43, .inr 44, .inr 45, .inr 46])) := rfl
theorem xA_43 : xA[43]? = some (.inr (0, 128, aw_no)) := rfl
theorem xA_44 : xA[44]? = some (.inr (0, 128, aw_no)) := rfl
theorem xA_45 : xA[45]? = some (.inr (0, 128, aw_no)) := rfl
theorem xA_46 : xA[46]? = some (.inr (0, 128, aw_no)) := rfl
theorem xA_47 : xA[47]? = some (.inr (0, 128, aw_no)) := rfl
theorem xA_48 : xA[48]? = some (.inr (0, 128, aw_no)) := rfl
theorem xA_49 : xA[49]? = some (.inr (0, 128, aw_no)) := rfl
theorem xA_50 : xA[50]? = some (.inr (0, 128, aw_no)) := rfl
theorem xA_51 : xA[51]? = some (.inr (0, 128, aw_no)) := rfl
theorem xA_52 : xA[52]? = some (.inr (0, 128, aw_no)) := rfl
theorem xA_53 : xA[53]? = some (.inr (0, 128, aw_no)) := rfl
theorem xA_54 : xA[54]? = some (.inr (0, 128, aw_no)) := rfl
theorem xA_55 : xA[55]? = some (.inr (0, 128, aw_no)) := rfl
theorem xA_56 : xA[56]? = some (.inr (0, 128, aw_no)) := rfl
theorem xA_57 : xA[57]? = some (.inr (0, 128, aw_no)) := rfl
theorem xA_58 : xA[58]? = some (.inl (4, [.inr 59, .inr 60, .inr 61, .inr 62, .inl 0])) := rfl
theorem xA_59 : xA[59]? = some (.inr (3, 128, aw_no)) := rfl
theorem xA_60 : xA[60]? = some (.inr (3, 128, aw_no)) := rfl
theorem xA_61 : xA[61]? = some (.inr (0, 128, aw_no)) := rfl
theorem xA_62 : xA[62]? = some (.inr (0, 128, aw_no)) := rfl
theorem xA_63 : xA[63]? = some (.inl (6, [.inr 64, .inr 65, .inr 66, .inr 67, .inr 68, .inl 0])) := rfl
theorem xA_64 : xA[64]? = some (.inr (0, 128, aw_no)) := rfl
theorem xA_65 : xA[65]? = some (.inr (0, 128, aw_no)) := rfl
theorem xA_66 : xA[66]? = some (.inr (0, 128, aw_no)) := rfl
theorem xA_67 : xA[67]? = some (.inr (0, 24, aw_no)) := rfl
theorem xA_68 : xA[68]? = some (.inr (0, 24, aw_no)) := rfl
theorem xA_69 : xA[69]? = some (.inl (6, [.inr 70, .inr 71, .inr 72, .inr 73, .inr 74, .inl 0])) := rfl
theorem xA_70 : xA[70]? = some (.inr (0, 128, aw_no)) := rfl
theorem xA_71 : xA[71]? = some (.inr (0, 128, aw_no)) := rfl
theorem xA_72 : xA[72]? = some (.inr (0, 128, aw_no)) := rfl
theorem xA_73 : xA[73]? = some (.inr (0, 24, aw_no)) := rfl
theorem xA_74 : xA[74]? = some (.inr (0, 24, aw_no)) := rfl
theorem xA_75 : xA[75]? = some (.inl (6, [.inr 76, .inr 77, .inr 78, .inr 79, .inr 80, .inl 0])) := rfl
theorem xA_76 : xA[76]? = some (.inr (0, 128, aw_no)) := rfl
theorem xA_77 : xA[77]? = some (.inr (0, 128, aw_no)) := rfl
theorem xA_78 : xA[78]? = some (.inr (0, 128, aw_no)) := rfl
theorem xA_79 : xA[79]? = some (.inr (0, 24, aw_no)) := rfl
theorem xA_80 : xA[80]? = some (.inr (0, 24, aw_no)) := rfl
theorem xA_81 : xA[81]? = some (.inr (0, 26, aw_no)) := rfl
theorem xA_82 : xA[82]? = some (.inl (8, [.inr 83, .inr 84, .inr 85, .inr 86, .inl 0, .inl 0, .inl 0, .inl 0, .inl 0, .inl 0])) := rfl
theorem xA_83 : xA[83]? = some (.inr (0, 26, aw_no)) := rfl
theorem xA_84 : xA[84]? = some (.inr (0, 40, aw_no)) := rfl
theorem xA_85 : xA[85]? = some (.inr (0, 24, aw_no)) := rfl
theorem xA_86 : xA[86]? = some (.inr (0, 24, aw_no)) := rfl
theorem xA_87 : xA[87]? = some (.inl (8, [.inr 88, .inr 89, .inr 90, .inr 91, .inl 0, .inl 0, .inl 0, .inl 0, .inl 0, .inl 0])) := rfl
theorem xA_88 : xA[88]? = some (.inr (0, 26, aw_no)) := rfl
theorem xA_89 : xA[89]? = some (.inr (0, 40, aw_no)) := rfl
theorem xA_90 : xA[90]? = some (.inr (0, 24, aw_no)) := rfl
theorem xA_91 : xA[91]? = some (.inr (0, 24, aw_no)) := rfl
theorem xA_92 : xA[92]? = some (.inl (8, [.inr 93, .inr 94, .inr 95, .inr 96, .inl 0, .inl 0, .inl 0, .inl 0, .inl 0, .inl 0])) := rfl
theorem xA_93 : xA[93]? = some (.inr (0, 26, aw_no)) := rfl
theorem xA_94 : xA[94]? = some (.inr (0, 40, aw_no)) := rfl
theorem xA_95 : xA[95]? = some (.inr (0, 24, aw_no)) := rfl
theorem xA_96 : xA[96]? = some (.inr (0, 24, aw_no)) := rfl
theorem xA_97 : xA[97]? = some (.inl (10, [.inr 98, .inl 2, .inl 2, .inl 2, .inl 2, .inl 2, .inl 2, .inl 1, .inl 0, .inl 0])) := rfl
theorem xA_98 : xA[98]? = some (.inr (0, 128, aw_no)) := rfl
theorem xA_99 : xA[99]? = some (.inr (3, 128, aw_no)) := rfl
theorem xA_100 : xA[100]? = some (.inr (0, 128, aw_no)) := rfl
theorem xA_101 : xA[101]? = some (.inr (0, 128, aw_no)) := rfl
theorem xA_102 : xA[102]? = some (.inr (3, 128, aw_no)) := rfl
theorem xA_103 : xA[103]? = some (.inr (0, 128, aw_no)) := rfl
theorem xA_104 : xA[104]? = some (.inr (0, 128, aw_no)) := rfl
theorem xA_105 : xA[105]? = some (.inl (5, [.inr 106, .inr 131, .inr 132, .inr 133, .inr 134, .inr 135, .inl 0, .inl 0, .inl 0, .inl 0, .inl 0, .inl 0, .inl 0])) := rfl
theorem xA_106 : xA[106]? = some (.inr (4, 24, aw_answ)) := rfl
theorem xA_107 : xA[107]? = some (.inr (0, 4, aw_no)) := rfl
theorem xA_108 : xA[108]? = some (.inr (0, 4, aw_no)) := rfl
theorem xA_109 : xA[109]? = some (.inr (0, 4, aw_no)) := rfl
theorem xA_110 : xA[110]? = some (.inr (0, 4, aw_no)) := rfl
theorem xA_111 : xA[111]? = some (.inr (0, 4, aw_no)) := rfl
theorem xA_112 : xA[112]? = some (.inr (0, 4, aw_no)) := rfl
theorem xA_113 : xA[113]? = some (.inr (0, 4, aw_no)) := rfl
theorem xA_114 : xA[114]? = some (.inr (0, 4, aw_no)) := rfl
theorem xA_115 : xA[115]? = some (.inr (0, 4, aw_no)) := rfl
theorem xA_116 : xA[116]? = some (.inr (0, 4, aw_no)) := rfl
theorem xA_117 : xA[117]? = some (.inr (0, 4, aw_no)) := rfl
theorem xA_118 : xA[118]? = some (.inr (0, 4, aw_no)) := rfl
theorem xA_119 : xA[119]? = some (.inr (0, 4, aw_no)) := rfl
theorem xA_120 : xA[120]? = some (.inr (0, 4, aw_no)) := rfl
theorem xA_121 : xA[121]? = some (.inr (0, 4, aw_no)) := rfl
theorem xA_122 : xA[122]? = some (.inr (0, 4, aw_no)) := rfl
theorem xA_123 : xA[123]? = some (.inr (0, 4, aw_no)) := rfl
theorem xA_124 : xA[124]? = some (.inr (0, 4, aw_no)) := rfl
theorem xA_125 : xA[125]? = some (.inr (0, 4, aw_no)) := rfl
theorem xA_126 : xA[126]? = some (.inr (0, 4, aw_no)) := rfl
theorem xA_127 : xA[127]? = some (.inr (0, 4, aw_no)) := rfl
theorem xA_128 : xA[128]? = some (.inr (0, 4, aw_no)) := rfl
theorem xA_129 : xA[129]? = some (.inr (0, 4, aw_no)) := rfl
theorem xA_130 : xA[130]? = some (.inr (0, 4, aw_no)) := rfl
theorem xA_131 : xA[131]? = some (.inr (0, 12, aw_no)) := rfl
theorem xA_132 : xA[132]? = some (.inr (0, 12, aw_no)) := rfl
theorem xA_133 : xA[133]? = some (.inr (0, 12, aw_no)) := rfl
theorem xA_134 : xA[134]? = some (.inr (0, 12, aw_no)) := rfl
theorem xA_135 : xA[135]? = some (.inr (0, 12, aw_no)) := rfl
theorem xA_136 : xA[136]? = some (.inl (9, [.inr 137, .inl 0])) := rfl
theorem xA_137 : xA[137]? = some (.inr (1, 800, aw_no)) := rfl
theorem xA_138 : xA[138]? = some (.inl (9, [.inr 139, .inl 0])) := rfl
theorem xA_139 : xA[139]? = some (.inr (1, 800, aw_no)) := rfl
theorem xA_140 : xA[140]? = some (.inl (9, [.inr 141, .inl 0])) := rfl
theorem xA_141 : xA[141]? = some (.inr (1, 800, aw_no)) := rfl
def xB : List aw_H := [.inl (12, [.inr 1, .inr 2, .inl 0, .inl 0, .inl 0, .inl 0, .inr 3, .inr 4, .inr 5, .inr 6, .inr 7, .inr 8, .inr 9, .inr 10, .inl 0, .inl 0, .inl 0, .inr 11, .inr 12, .inr 13, .inr 14, .inr 15, .inr 16, .inr 17, .inr 18, .inr 19, .inl 0, .inl 0, .inl 0, .inl 0, .inr 20, .inr 21, .inr 22, .inl 0, .inl 0, .inl 0, .inr 23, .inr 24, .inr 25, .inr 26, .inr 27, .inr 28, .inr 29, .inr 30, .inr 31, .inr 32, .inr 33, .inr 34, .inl 0, .inr 35, .inr 36, .inr 37, .inr 38, .inr 39, .inl 0]),
  .inr (0, 1700, aw_no),
  .inr (1, 800, aw_no),
  .inr (0, 32, aw_no),
  .inr (0, 112, aw_no),
  .inr (0, 112, aw_no),
  .inr (0, 112, aw_no),
  .inr (0, 224, aw_no),
  .inr (0, 112, aw_no),
  .inr (2, 16, aw_no),
  .inr (0, 16, aw_no),
  .inr (2, 112, aw_no),
  .inr (2, 21504, aw_no),
  .inr (2, 16128, aw_no),
  .inr (0, 24, aw_no),
  .inr (0, 26, aw_no),
  .inr (0, 26, aw_no),
  .inr (0, 24, aw_no),
  .inr (0, 24, aw_no),
  .inr (0, 40, aw_no),
  .inr (0, 26, aw_no),
  .inr (0, 24, aw_no),
  .inr (0, 40, aw_no),
  .inr (0, 40, aw_no),
  .inr (2, 12, aw_no),
  .inr (2, 12, aw_no),
  .inr (0, 12, aw_no),
  .inr (3, 112, aw_no),
  .inr (3, 112, aw_no),
  .inr (0, 112, aw_no),
  .inr (0, 112, aw_no),
  .inr (0, 112, aw_no),
  .inr (0, 112, aw_no),
  .inr (2, 3, aw_no),
  .inr (1, 600, aw_no),
  .inr (2, 112, aw_no),
  .inr (0, 112, aw_no),
  .inr (2, 12544, aw_no),
  .inr (2, 112, aw_no),
  .inr (0, 112, aw_no)]
theorem xB_0 : xB[0]? = some (.inl (12, [.inr 1, .inr 2, .inl 0, .inl 0, .inl 0, .inl 0, .inr 3, .inr 4, .inr 5, .inr 6, .inr 7, .inr 8, .inr 9, .inr 10, .inl 0, .inl 0, .inl 0, .inr 11, .inr 12, .inr 13, .inr 14, .inr 15, .inr 16, .inr 17, .inr 18, .inr 19, .inl 0, .inl 0, .inl 0, .inl 0, .inr 20, .inr 21, .inr 22, .inl 0, .inl 0, .inl 0, .inr 23, .inr 24, .inr 25, .inr 26, .inr 27, .inr 28, .inr 29, .inr 30, .inr 31, .inr 32, .inr 33, .inr 34, .inl 0, .inr 35, .inr 36, .inr 37, .inr 38, .inr 39, .inl 0])) := rfl
theorem xB_1 : xB[1]? = some (.inr (0, 1700, aw_no)) := rfl
theorem xB_2 : xB[2]? = some (.inr (1, 800, aw_no)) := rfl
theorem xB_3 : xB[3]? = some (.inr (0, 32, aw_no)) := rfl
theorem xB_4 : xB[4]? = some (.inr (0, 112, aw_no)) := rfl
theorem xB_5 : xB[5]? = some (.inr (0, 112, aw_no)) := rfl
theorem xB_6 : xB[6]? = some (.inr (0, 112, aw_no)) := rfl
theorem xB_7 : xB[7]? = some (.inr (0, 224, aw_no)) := rfl
theorem xB_8 : xB[8]? = some (.inr (0, 112, aw_no)) := rfl
theorem xB_9 : xB[9]? = some (.inr (2, 16, aw_no)) := rfl
theorem xB_10 : xB[10]? = some (.inr (0, 16, aw_no)) := rfl
theorem xB_11 : xB[11]? = some (.inr (2, 112, aw_no)) := rfl
theorem xB_12 : xB[12]? = some (.inr (2, 21504, aw_no)) := rfl
theorem xB_13 : xB[13]? = some (.inr (2, 16128, aw_no)) := rfl
theorem xB_14 : xB[14]? = some (.inr (0, 24, aw_no)) := rfl
theorem xB_15 : xB[15]? = some (.inr (0, 26, aw_no)) := rfl
theorem xB_16 : xB[16]? = some (.inr (0, 26, aw_no)) := rfl
theorem xB_17 : xB[17]? = some (.inr (0, 24, aw_no)) := rfl
theorem xB_18 : xB[18]? = some (.inr (0, 24, aw_no)) := rfl
theorem xB_19 : xB[19]? = some (.inr (0, 40, aw_no)) := rfl
theorem xB_20 : xB[20]? = some (.inr (0, 26, aw_no)) := rfl
theorem xB_21 : xB[21]? = some (.inr (0, 24, aw_no)) := rfl
theorem xB_22 : xB[22]? = some (.inr (0, 40, aw_no)) := rfl
theorem xB_23 : xB[23]? = some (.inr (0, 40, aw_no)) := rfl
theorem xB_24 : xB[24]? = some (.inr (2, 12, aw_no)) := rfl
theorem xB_25 : xB[25]? = some (.inr (2, 12, aw_no)) := rfl
theorem xB_26 : xB[26]? = some (.inr (0, 12, aw_no)) := rfl
theorem xB_27 : xB[27]? = some (.inr (3, 112, aw_no)) := rfl
theorem xB_28 : xB[28]? = some (.inr (3, 112, aw_no)) := rfl
theorem xB_29 : xB[29]? = some (.inr (0, 112, aw_no)) := rfl
theorem xB_30 : xB[30]? = some (.inr (0, 112, aw_no)) := rfl
theorem xB_31 : xB[31]? = some (.inr (0, 112, aw_no)) := rfl
theorem xB_32 : xB[32]? = some (.inr (0, 112, aw_no)) := rfl
theorem xB_33 : xB[33]? = some (.inr (2, 3, aw_no)) := rfl
theorem xB_34 : xB[34]? = some (.inr (1, 600, aw_no)) := rfl
theorem xB_35 : xB[35]? = some (.inr (2, 112, aw_no)) := rfl
theorem xB_36 : xB[36]? = some (.inr (0, 112, aw_no)) := rfl
theorem xB_37 : xB[37]? = some (.inr (2, 12544, aw_no)) := rfl
theorem xB_38 : xB[38]? = some (.inr (2, 112, aw_no)) := rfl
theorem xB_39 : xB[39]? = some (.inr (0, 112, aw_no)) := rfl
def isEx (o : Nat) : Prop := xA[o]? = some (.inl (0, [.inr (o + 1), .inr (o + 2), .inr (o + 3), .inl 0])) ∧ xA[o + 1]? = some (.inr (0, 24, aw_no)) ∧ xA[o + 2]? = some (.inr (0, 24, aw_no)) ∧ xA[o + 3]? = some (.inr (0, 24, aw_no))
theorem isEx_11 : isEx 11 := ⟨rfl, rfl, rfl, rfl⟩
theorem isEx_25 : isEx 25 := ⟨rfl, rfl, rfl, rfl⟩
def isPl (o : Nat) : Prop := xA[o]? = some (.inl (6, [.inr (o + 1), .inr (o + 2), .inr (o + 3), .inr (o + 4), .inr (o + 5), .inl 0])) ∧ xA[o + 1]? = some (.inr (0, 128, aw_no)) ∧ xA[o + 2]? = some (.inr (0, 128, aw_no)) ∧ xA[o + 3]? = some (.inr (0, 128, aw_no)) ∧ xA[o + 4]? = some (.inr (0, 24, aw_no)) ∧ xA[o + 5]? = some (.inr (0, 24, aw_no))
theorem isPl_63 : isPl 63 := ⟨rfl, rfl, rfl, rfl, rfl, rfl⟩
theorem isPl_69 : isPl 69 := ⟨rfl, rfl, rfl, rfl, rfl, rfl⟩
theorem isPl_75 : isPl 75 := ⟨rfl, rfl, rfl, rfl, rfl, rfl⟩
def isRu (o : Nat) : Prop := xA[o]? = some (.inl (8, [.inr (o + 1), .inr (o + 2), .inr (o + 3), .inr (o + 4), .inl 0, .inl 0, .inl 0, .inl 0, .inl 0, .inl 0])) ∧ xA[o + 1]? = some (.inr (0, 26, aw_no)) ∧ xA[o + 2]? = some (.inr (0, 40, aw_no)) ∧ xA[o + 3]? = some (.inr (0, 24, aw_no)) ∧ xA[o + 4]? = some (.inr (0, 24, aw_no))
theorem isRu_82 : isRu 82 := ⟨rfl, rfl, rfl, rfl, rfl⟩
theorem isRu_87 : isRu 87 := ⟨rfl, rfl, rfl, rfl, rfl⟩
theorem isRu_92 : isRu 92 := ⟨rfl, rfl, rfl, rfl, rfl⟩
def isTe (o : Nat) : Prop := xA[o]? = some (.inl (9, [.inr (o + 1), .inl 0])) ∧ xA[o + 1]? = some (.inr (1, 800, aw_no))
theorem isTe_1 : isTe 1 := ⟨rfl, rfl⟩
theorem isTe_3 : isTe 3 := ⟨rfl, rfl⟩
theorem isTe_5 : isTe 5 := ⟨rfl, rfl⟩
theorem isTe_9 : isTe 9 := ⟨rfl, rfl⟩
theorem isTe_136 : isTe 136 := ⟨rfl, rfl⟩
theorem isTe_138 : isTe 138 := ⟨rfl, rfl⟩
theorem isTe_140 : isTe 140 := ⟨rfl, rfl⟩
theorem aw_kept_ok {i w : Nat} (h : aw_kept i = some w) : isTe w := by
  unfold aw_kept at h
  by_cases hi : i < 3
  · rw [if_pos hi] at h
    cases h
    have : i = 0 ∨ i = 1 ∨ i = 2 := by omega
    rcases this with rfl | rfl | rfl
    · exact isTe_136
    · exact isTe_138
    · exact isTe_140
  · rw [if_neg hi] at h; cases h
theorem aw_answ_ok {i w : Nat} (h : aw_answ i = some w) : xA[w]? = some (.inr (0, 4, aw_no)) := by
  unfold aw_answ at h
  by_cases hi : i < 24
  · rw [if_pos hi] at h
    cases h
    have hk : i = 0 ∨ i = 1 ∨ i = 2 ∨ i = 3 ∨ i = 4 ∨ i = 5 ∨ i = 6 ∨ i = 7 ∨ i = 8 ∨ i = 9 ∨ i = 10 ∨ i = 11 ∨ i = 12 ∨ i = 13 ∨ i = 14 ∨ i = 15 ∨ i = 16 ∨ i = 17 ∨ i = 18 ∨ i = 19 ∨ i = 20 ∨ i = 21 ∨ i = 22 ∨ i = 23 := by omega
    rcases hk with rfl | rfl | rfl | rfl | rfl | rfl | rfl | rfl | rfl | rfl | rfl | rfl | rfl | rfl | rfl | rfl | rfl | rfl | rfl | rfl | rfl | rfl | rfl | rfl
    · exact xA_107
    · exact xA_108
    · exact xA_109
    · exact xA_110
    · exact xA_111
    · exact xA_112
    · exact xA_113
    · exact xA_114
    · exact xA_115
    · exact xA_116
    · exact xA_117
    · exact xA_118
    · exact xA_119
    · exact xA_120
    · exact xA_121
    · exact xA_122
    · exact xA_123
    · exact xA_124
    · exact xA_125
    · exact xA_126
    · exact xA_127
    · exact xA_128
    · exact xA_129
    · exact xA_130
  · rw [if_neg hi] at h; cases h
theorem wm_15 : Cond.fieldLink RX11 12 "LateMover" "tape" "LLateMover$Text;" ∈ wsL_law := aw_in_0 _ (List.mem_of_getElem? (i := 15) rfl)
theorem wm_16 : Cond.fieldLink RX11 16 "LateMover" "present" "LLateMover$Text;" ∈ wsL_law := aw_in_0 _ (List.mem_of_getElem? (i := 16) rfl)
theorem wm_17 : Cond.fieldLink RX11 19 "LateMover" "wrote" "LLateMover$Text;" ∈ wsL_law := aw_in_0 _ (List.mem_of_getElem? (i := 17) rfl)
theorem wm_18 : Cond.fieldLink RX11 22 "LateMover" "kept" "[LLateMover$Text;" ∈ wsL_law := aw_in_0 _ (List.mem_of_getElem? (i := 18) rfl)
theorem wm_22 : Cond.fieldLink RX11 29 "LateMover" "reader" "LLateMover$Reader;" ∈ wsL_law := aw_in_0 _ (List.mem_of_getElem? (i := 22) rfl)
theorem wm_26 : Cond.fieldLink RX11 36 "LateMover" "graph" "LLateMover$Graph;" ∈ wsL_law := aw_in_1 _ (List.mem_of_getElem? (i := 2) rfl)
theorem wm_30 : Cond.fieldLink RX11 43 "LateMover" "facts" "LLateMover$Facts;" ∈ wsL_law := aw_in_1 _ (List.mem_of_getElem? (i := 6) rfl)
theorem wm_34 : Cond.fieldLink RX11 50 "LateMover" "loops" "LLateMover$Loops;" ∈ wsL_law := aw_in_1 _ (List.mem_of_getElem? (i := 10) rfl)
theorem wm_38 : Cond.fieldLink RX11 57 "LateMover" "unmoved" "LLateMover$Placement;" ∈ wsL_law := aw_in_1 _ (List.mem_of_getElem? (i := 14) rfl)
theorem wm_39 : Cond.fieldLink RX11 61 "LateMover" "busy" "LLateMover$Placement;" ∈ wsL_law := aw_in_1 _ (List.mem_of_getElem? (i := 15) rfl)
theorem wm_40 : Cond.fieldLink RX11 64 "LateMover" "lazy" "LLateMover$Placement;" ∈ wsL_law := aw_in_1 _ (List.mem_of_getElem? (i := 16) rfl)
theorem wm_42 : Cond.fieldLink RX11 67 "LateMover" "told" "[I" ∈ wsL_law := aw_in_1 _ (List.mem_of_getElem? (i := 18) rfl)
theorem wm_46 : Cond.fieldLink RX11 74 "LateMover" "latest" "LLateMover$Run;" ∈ wsL_law := aw_in_1 _ (List.mem_of_getElem? (i := 22) rfl)
theorem wm_47 : Cond.fieldLink RX11 78 "LateMover" "sourceRun" "LLateMover$Run;" ∈ wsL_law := aw_in_1 _ (List.mem_of_getElem? (i := 23) rfl)
theorem wm_48 : Cond.fieldLink RX11 81 "LateMover" "movedRun" "LLateMover$Run;" ∈ wsL_law := aw_in_2 _ (List.mem_of_getElem? (i := 0) rfl)
theorem wm_52 : Cond.fieldLink RX11 87 "LateMover" "routes" "LLateMover$Ways;" ∈ wsL_law := aw_in_2 _ (List.mem_of_getElem? (i := 4) rfl)
theorem wm_56 : Cond.fieldLink RX11 94 "LateMover" "rivals" "LLateMover$Others;" ∈ wsL_law := aw_in_2 _ (List.mem_of_getElem? (i := 8) rfl)
theorem wm_57 : Cond.fieldLink RX11 98 "LateMover" "wrongAt" "I" ∈ wsL_law := aw_in_2 _ (List.mem_of_getElem? (i := 9) rfl)
theorem wm_62 : Cond.fieldLink RX9 9 "LateMover$Text" "bytes" "[B" ∈ wsL_law := aw_in_2 _ (List.mem_of_getElem? (i := 14) rfl)
theorem wm_67 : Cond.fieldLink RX7 12 "LateMover$Reader" "text" "LLateMover$Text;" ∈ wsL_law := aw_in_2 _ (List.mem_of_getElem? (i := 19) rfl)
theorem wm_71 : Cond.fieldLink RX7 21 "LateMover$Reader" "expressions" "LLateMover$Expressions;" ∈ wsL_law := aw_in_2 _ (List.mem_of_getElem? (i := 23) rfl)
theorem wm_72 : Cond.fieldLink RX7 25 "LateMover$Reader" "kind" "[I" ∈ wsL_law := aw_in_3 _ (List.mem_of_getElem? (i := 0) rfl)
theorem wm_73 : Cond.fieldLink RX7 29 "LateMover$Reader" "block" "[I" ∈ wsL_law := aw_in_3 _ (List.mem_of_getElem? (i := 1) rfl)
theorem wm_74 : Cond.fieldLink RX7 32 "LateMover$Reader" "letter" "[I" ∈ wsL_law := aw_in_3 _ (List.mem_of_getElem? (i := 2) rfl)
theorem wm_75 : Cond.fieldLink RX7 35 "LateMover$Reader" "operand" "[I" ∈ wsL_law := aw_in_3 _ (List.mem_of_getElem? (i := 3) rfl)
theorem wm_76 : Cond.fieldLink RX7 38 "LateMover$Reader" "expression" "[I" ∈ wsL_law := aw_in_3 _ (List.mem_of_getElem? (i := 4) rfl)
theorem wm_77 : Cond.fieldLink RX7 41 "LateMover$Reader" "to" "[I" ∈ wsL_law := aw_in_3 _ (List.mem_of_getElem? (i := 5) rfl)
theorem wm_78 : Cond.fieldLink RX7 44 "LateMover$Reader" "orTo" "[I" ∈ wsL_law := aw_in_3 _ (List.mem_of_getElem? (i := 6) rfl)
theorem wm_79 : Cond.fieldLink RX7 47 "LateMover$Reader" "toAt" "[I" ∈ wsL_law := aw_in_3 _ (List.mem_of_getElem? (i := 7) rfl)
theorem wm_80 : Cond.fieldLink RX7 50 "LateMover$Reader" "orToAt" "[I" ∈ wsL_law := aw_in_3 _ (List.mem_of_getElem? (i := 8) rfl)
theorem wm_84 : Cond.fieldLink RX0 9 "LateMover$Expressions" "sign" "[I" ∈ wsL_law := aw_in_3 _ (List.mem_of_getElem? (i := 12) rfl)
theorem wm_85 : Cond.fieldLink RX0 15 "LateMover$Expressions" "left" "[I" ∈ wsL_law := aw_in_3 _ (List.mem_of_getElem? (i := 13) rfl)
theorem wm_86 : Cond.fieldLink RX0 18 "LateMover$Expressions" "right" "[I" ∈ wsL_law := aw_in_3 _ (List.mem_of_getElem? (i := 14) rfl)
theorem wm_91 : Cond.fieldLink RX3 12 "LateMover$Graph" "expressions" "LLateMover$Expressions;" ∈ wsL_law := aw_in_3 _ (List.mem_of_getElem? (i := 19) rfl)
theorem wm_92 : Cond.fieldLink RX3 18 "LateMover$Graph" "kind" "[I" ∈ wsL_law := aw_in_3 _ (List.mem_of_getElem? (i := 20) rfl)
theorem wm_93 : Cond.fieldLink RX3 22 "LateMover$Graph" "block" "[I" ∈ wsL_law := aw_in_3 _ (List.mem_of_getElem? (i := 21) rfl)
theorem wm_94 : Cond.fieldLink RX3 25 "LateMover$Graph" "letter" "[I" ∈ wsL_law := aw_in_3 _ (List.mem_of_getElem? (i := 22) rfl)
theorem wm_95 : Cond.fieldLink RX3 28 "LateMover$Graph" "operand" "[I" ∈ wsL_law := aw_in_3 _ (List.mem_of_getElem? (i := 23) rfl)
theorem wm_96 : Cond.fieldLink RX3 31 "LateMover$Graph" "expression" "[I" ∈ wsL_law := aw_in_4 _ (List.mem_of_getElem? (i := 0) rfl)
theorem wm_97 : Cond.fieldLink RX3 34 "LateMover$Graph" "to" "[I" ∈ wsL_law := aw_in_4 _ (List.mem_of_getElem? (i := 1) rfl)
theorem wm_98 : Cond.fieldLink RX3 37 "LateMover$Graph" "orTo" "[I" ∈ wsL_law := aw_in_4 _ (List.mem_of_getElem? (i := 2) rfl)
theorem wm_99 : Cond.fieldLink RX3 40 "LateMover$Graph" "first" "[I" ∈ wsL_law := aw_in_4 _ (List.mem_of_getElem? (i := 3) rfl)
theorem wm_100 : Cond.fieldLink RX3 43 "LateMover$Graph" "second" "[I" ∈ wsL_law := aw_in_4 _ (List.mem_of_getElem? (i := 4) rfl)
theorem wm_101 : Cond.fieldLink RX3 46 "LateMover$Graph" "from" "[I" ∈ wsL_law := aw_in_4 _ (List.mem_of_getElem? (i := 5) rfl)
theorem wm_102 : Cond.fieldLink RX3 49 "LateMover$Graph" "fromStart" "[I" ∈ wsL_law := aw_in_4 _ (List.mem_of_getElem? (i := 6) rfl)
theorem wm_103 : Cond.fieldLink RX3 52 "LateMover$Graph" "blockStart" "[I" ∈ wsL_law := aw_in_4 _ (List.mem_of_getElem? (i := 7) rfl)
theorem wm_110 : Cond.fieldLink RX1 12 "LateMover$Facts" "flow" "LLateMover$Flow;" ∈ wsL_law := aw_in_4 _ (List.mem_of_getElem? (i := 14) rfl)
theorem wm_111 : Cond.fieldLink RX1 18 "LateMover$Facts" "uses" "[I" ∈ wsL_law := aw_in_4 _ (List.mem_of_getElem? (i := 15) rfl)
theorem wm_112 : Cond.fieldLink RX1 22 "LateMover$Facts" "keeps" "[I" ∈ wsL_law := aw_in_4 _ (List.mem_of_getElem? (i := 16) rfl)
theorem wm_113 : Cond.fieldLink RX1 25 "LateMover$Facts" "needed" "[I" ∈ wsL_law := aw_in_4 _ (List.mem_of_getElem? (i := 17) rfl)
theorem wm_114 : Cond.fieldLink RX1 28 "LateMover$Facts" "atHand" "[I" ∈ wsL_law := aw_in_4 _ (List.mem_of_getElem? (i := 18) rfl)
theorem wm_115 : Cond.fieldLink RX1 31 "LateMover$Facts" "early" "[I" ∈ wsL_law := aw_in_4 _ (List.mem_of_getElem? (i := 19) rfl)
theorem wm_116 : Cond.fieldLink RX1 34 "LateMover$Facts" "delayed" "[I" ∈ wsL_law := aw_in_4 _ (List.mem_of_getElem? (i := 20) rfl)
theorem wm_117 : Cond.fieldLink RX1 37 "LateMover$Facts" "late" "[I" ∈ wsL_law := aw_in_4 _ (List.mem_of_getElem? (i := 21) rfl)
theorem wm_118 : Cond.fieldLink RX1 40 "LateMover$Facts" "alone" "[I" ∈ wsL_law := aw_in_4 _ (List.mem_of_getElem? (i := 22) rfl)
theorem wm_119 : Cond.fieldLink RX1 43 "LateMover$Facts" "maybe" "[I" ∈ wsL_law := aw_in_4 _ (List.mem_of_getElem? (i := 23) rfl)
theorem wm_120 : Cond.fieldLink RX1 46 "LateMover$Facts" "live" "[I" ∈ wsL_law := aw_in_5 _ (List.mem_of_getElem? (i := 0) rfl)
theorem wm_121 : Cond.fieldLink RX1 49 "LateMover$Facts" "ends" "[I" ∈ wsL_law := aw_in_5 _ (List.mem_of_getElem? (i := 1) rfl)
theorem wm_125 : Cond.fieldLink RX2 9 "LateMover$Flow" "own" "[I" ∈ wsL_law := aw_in_5 _ (List.mem_of_getElem? (i := 5) rfl)
theorem wm_126 : Cond.fieldLink RX2 15 "LateMover$Flow" "lets" "[I" ∈ wsL_law := aw_in_5 _ (List.mem_of_getElem? (i := 6) rfl)
theorem wm_127 : Cond.fieldLink RX2 18 "LateMover$Flow" "gives" "[I" ∈ wsL_law := aw_in_5 _ (List.mem_of_getElem? (i := 7) rfl)
theorem wm_128 : Cond.fieldLink RX2 21 "LateMover$Flow" "passes" "[I" ∈ wsL_law := aw_in_5 _ (List.mem_of_getElem? (i := 8) rfl)
theorem wm_133 : Cond.fieldLink RX4 9 "LateMover$Loops" "lowOver" "[J" ∈ wsL_law := aw_in_5 _ (List.mem_of_getElem? (i := 13) rfl)
theorem wm_134 : Cond.fieldLink RX4 15 "LateMover$Loops" "highOver" "[J" ∈ wsL_law := aw_in_5 _ (List.mem_of_getElem? (i := 14) rfl)
theorem wm_135 : Cond.fieldLink RX4 18 "LateMover$Loops" "inside" "[I" ∈ wsL_law := aw_in_5 _ (List.mem_of_getElem? (i := 15) rfl)
theorem wm_136 : Cond.fieldLink RX4 22 "LateMover$Loops" "deep" "[I" ∈ wsL_law := aw_in_5 _ (List.mem_of_getElem? (i := 16) rfl)
theorem wm_140 : Cond.fieldLink RX6 9 "LateMover$Placement" "put" "[I" ∈ wsL_law := aw_in_5 _ (List.mem_of_getElem? (i := 20) rfl)
theorem wm_141 : Cond.fieldLink RX6 15 "LateMover$Placement" "replaced" "[I" ∈ wsL_law := aw_in_5 _ (List.mem_of_getElem? (i := 21) rfl)
theorem wm_142 : Cond.fieldLink RX6 18 "LateMover$Placement" "alive" "[I" ∈ wsL_law := aw_in_5 _ (List.mem_of_getElem? (i := 22) rfl)
theorem wm_143 : Cond.fieldLink RX6 21 "LateMover$Placement" "clashes" "[I" ∈ wsL_law := aw_in_5 _ (List.mem_of_getElem? (i := 23) rfl)
theorem wm_144 : Cond.fieldLink RX6 24 "LateMover$Placement" "name" "[I" ∈ wsL_law := aw_in_6 _ (List.mem_of_getElem? (i := 0) rfl)
theorem wm_148 : Cond.fieldLink RX8 9 "LateMover$Run" "letters" "[I" ∈ wsL_law := aw_in_6 _ (List.mem_of_getElem? (i := 4) rfl)
theorem wm_149 : Cond.fieldLink RX8 15 "LateMover$Run" "outputs" "[I" ∈ wsL_law := aw_in_6 _ (List.mem_of_getElem? (i := 5) rfl)
theorem wm_150 : Cond.fieldLink RX8 18 "LateMover$Run" "times" "[I" ∈ wsL_law := aw_in_6 _ (List.mem_of_getElem? (i := 6) rfl)
theorem wm_151 : Cond.fieldLink RX8 21 "LateMover$Run" "names" "[I" ∈ wsL_law := aw_in_6 _ (List.mem_of_getElem? (i := 7) rfl)
theorem wm_155 : Cond.fieldLink RX10 9 "LateMover$Ways" "work" "[I" ∈ wsL_law := aw_in_6 _ (List.mem_of_getElem? (i := 11) rfl)
theorem wm_156 : Cond.fieldLink RX10 15 "LateMover$Ways" "ways" "[J" ∈ wsL_law := aw_in_6 _ (List.mem_of_getElem? (i := 12) rfl)
theorem wm_157 : Cond.fieldLink RX10 19 "LateMover$Ways" "low" "[I" ∈ wsL_law := aw_in_6 _ (List.mem_of_getElem? (i := 13) rfl)
theorem wm_158 : Cond.fieldLink RX10 22 "LateMover$Ways" "high" "[I" ∈ wsL_law := aw_in_6 _ (List.mem_of_getElem? (i := 14) rfl)
theorem wm_159 : Cond.fieldLink RX10 25 "LateMover$Ways" "nextWays" "[J" ∈ wsL_law := aw_in_6 _ (List.mem_of_getElem? (i := 15) rfl)
theorem wm_160 : Cond.fieldLink RX10 28 "LateMover$Ways" "nextLow" "[I" ∈ wsL_law := aw_in_6 _ (List.mem_of_getElem? (i := 16) rfl)
theorem wm_161 : Cond.fieldLink RX10 31 "LateMover$Ways" "nextHigh" "[I" ∈ wsL_law := aw_in_6 _ (List.mem_of_getElem? (i := 17) rfl)
theorem wm_166 : Cond.fieldLink RX5 13 "LateMover$Others" "answers" "[[I" ∈ wsL_law := aw_in_6 _ (List.mem_of_getElem? (i := 22) rfl)
theorem wm_167 : Cond.fieldLink RX5 16 "LateMover$Others" "one" "[I" ∈ wsL_law := aw_in_6 _ (List.mem_of_getElem? (i := 23) rfl)
theorem wm_168 : Cond.fieldLink RX5 20 "LateMover$Others" "two" "[I" ∈ wsL_law := aw_in_7 _ (List.mem_of_getElem? (i := 0) rfl)
theorem wm_169 : Cond.fieldLink RX5 23 "LateMover$Others" "from" "[I" ∈ wsL_law := aw_in_7 _ (List.mem_of_getElem? (i := 1) rfl)
theorem wm_170 : Cond.fieldLink RX5 26 "LateMover$Others" "next" "[I" ∈ wsL_law := aw_in_7 _ (List.mem_of_getElem? (i := 2) rfl)
theorem wm_171 : Cond.fieldLink RX5 29 "LateMover$Others" "ahead" "[I" ∈ wsL_law := aw_in_7 _ (List.mem_of_getElem? (i := 3) rfl)
theorem wm_176 : Cond.fieldLink RX12 7 "LateMoverModel" "all" "[I" ∈ wsL_law := aw_in_7 _ (List.mem_of_getElem? (i := 8) rfl)
theorem wm_177 : Cond.fieldLink RX12 13 "LateMoverModel" "tape" "[B" ∈ wsL_law := aw_in_7 _ (List.mem_of_getElem? (i := 9) rfl)
theorem wm_178 : Cond.fieldLink RX12 17 "LateMoverModel" "faultPlace" "I" ∈ wsL_law := aw_in_7 _ (List.mem_of_getElem? (i := 10) rfl)
theorem wm_179 : Cond.fieldLink RX12 21 "LateMoverModel" "place" "[I" ∈ wsL_law := aw_in_7 _ (List.mem_of_getElem? (i := 11) rfl)
theorem wm_180 : Cond.fieldLink RX12 24 "LateMoverModel" "kind" "[I" ∈ wsL_law := aw_in_7 _ (List.mem_of_getElem? (i := 12) rfl)
theorem wm_181 : Cond.fieldLink RX12 27 "LateMoverModel" "blockOf" "[I" ∈ wsL_law := aw_in_7 _ (List.mem_of_getElem? (i := 13) rfl)
theorem wm_182 : Cond.fieldLink RX12 30 "LateMoverModel" "statement" "[I" ∈ wsL_law := aw_in_7 _ (List.mem_of_getElem? (i := 14) rfl)
theorem wm_183 : Cond.fieldLink RX12 33 "LateMoverModel" "next" "[I" ∈ wsL_law := aw_in_7 _ (List.mem_of_getElem? (i := 15) rfl)
theorem wm_184 : Cond.fieldLink RX12 36 "LateMoverModel" "come" "[I" ∈ wsL_law := aw_in_7 _ (List.mem_of_getElem? (i := 16) rfl)
theorem wm_186 : Cond.fieldLink RX12 39 "LateMoverModel" "isCome" "[Z" ∈ wsL_law := aw_in_7 _ (List.mem_of_getElem? (i := 18) rfl)
theorem wm_187 : Cond.fieldLink RX12 43 "LateMoverModel" "beginOf" "[I" ∈ wsL_law := aw_in_7 _ (List.mem_of_getElem? (i := 19) rfl)
theorem wm_188 : Cond.fieldLink RX12 46 "LateMoverModel" "leads" "[Z" ∈ wsL_law := aw_in_7 _ (List.mem_of_getElem? (i := 20) rfl)
theorem wm_189 : Cond.fieldLink RX12 49 "LateMoverModel" "facts" "[Z" ∈ wsL_law := aw_in_7 _ (List.mem_of_getElem? (i := 21) rfl)
theorem wm_190 : Cond.fieldLink RX12 52 "LateMoverModel" "placed" "[Z" ∈ wsL_law := aw_in_7 _ (List.mem_of_getElem? (i := 22) rfl)
theorem wm_191 : Cond.fieldLink RX12 55 "LateMoverModel" "name" "[I" ∈ wsL_law := aw_in_7 _ (List.mem_of_getElem? (i := 23) rfl)
theorem wm_192 : Cond.fieldLink RX12 58 "LateMoverModel" "begins" "[I" ∈ wsL_law := aw_in_8 _ (List.mem_of_getElem? (i := 0) rfl)
theorem wm_193 : Cond.fieldLink RX12 61 "LateMoverModel" "value" "[I" ∈ wsL_law := aw_in_8 _ (List.mem_of_getElem? (i := 1) rfl)
theorem wm_194 : Cond.fieldLink RX12 64 "LateMoverModel" "nameValue" "[I" ∈ wsL_law := aw_in_8 _ (List.mem_of_getElem? (i := 2) rfl)
theorem wm_195 : Cond.fieldLink RX12 67 "LateMoverModel" "worked" "[I" ∈ wsL_law := aw_in_8 _ (List.mem_of_getElem? (i := 3) rfl)
theorem wm_196 : Cond.fieldLink RX12 70 "LateMoverModel" "shown" "[I" ∈ wsL_law := aw_in_8 _ (List.mem_of_getElem? (i := 4) rfl)
theorem wm_197 : Cond.fieldLink RX12 73 "LateMoverModel" "lastValue" "[I" ∈ wsL_law := aw_in_8 _ (List.mem_of_getElem? (i := 5) rfl)
theorem wm_198 : Cond.fieldLink RX12 76 "LateMoverModel" "lastWorked" "[I" ∈ wsL_law := aw_in_8 _ (List.mem_of_getElem? (i := 6) rfl)
theorem wm_199 : Cond.fieldLink RX12 79 "LateMoverModel" "lastShown" "[I" ∈ wsL_law := aw_in_8 _ (List.mem_of_getElem? (i := 7) rfl)
theorem wm_200 : Cond.fieldLink RX12 82 "LateMoverModel" "ownShown" "[I" ∈ wsL_law := aw_in_8 _ (List.mem_of_getElem? (i := 8) rfl)
theorem wm_201 : Cond.fieldLink RX12 85 "LateMoverModel" "held" "[Z" ∈ wsL_law := aw_in_8 _ (List.mem_of_getElem? (i := 9) rfl)
theorem wm_202 : Cond.fieldLink RX12 88 "LateMoverModel" "alive" "[Z" ∈ wsL_law := aw_in_8 _ (List.mem_of_getElem? (i := 10) rfl)
theorem wm_203 : Cond.fieldLink RX12 91 "LateMoverModel" "far" "[I" ∈ wsL_law := aw_in_8 _ (List.mem_of_getElem? (i := 11) rfl)
theorem wm_204 : Cond.fieldLink RX12 94 "LateMoverModel" "ways" "[J" ∈ wsL_law := aw_in_8 _ (List.mem_of_getElem? (i := 12) rfl)
theorem wm_205 : Cond.fieldLink RX12 98 "LateMoverModel" "waysThen" "[J" ∈ wsL_law := aw_in_8 _ (List.mem_of_getElem? (i := 13) rfl)
theorem wm_206 : Cond.fieldLink RX12 101 "LateMoverModel" "leastOf" "[I" ∈ wsL_law := aw_in_8 _ (List.mem_of_getElem? (i := 14) rfl)
theorem wm_207 : Cond.fieldLink RX12 104 "LateMoverModel" "leastThen" "[I" ∈ wsL_law := aw_in_8 _ (List.mem_of_getElem? (i := 15) rfl)
theorem wm_208 : Cond.fieldLink RX12 107 "LateMoverModel" "mostOf" "[I" ∈ wsL_law := aw_in_8 _ (List.mem_of_getElem? (i := 16) rfl)
theorem wm_209 : Cond.fieldLink RX12 110 "LateMoverModel" "mostThen" "[I" ∈ wsL_law := aw_in_8 _ (List.mem_of_getElem? (i := 17) rfl)
theorem wm_210 : Cond.fieldLink RX12 113 "LateMoverModel" "isKept" "[Z" ∈ wsL_law := aw_in_8 _ (List.mem_of_getElem? (i := 18) rfl)
theorem wm_211 : Cond.fieldLink RX12 116 "LateMoverModel" "writtenRow" "[B" ∈ wsL_law := aw_in_8 _ (List.mem_of_getElem? (i := 19) rfl)
theorem wm_212 : Cond.fieldLink RX12 119 "LateMoverModel" "maybe" "[Z" ∈ wsL_law := aw_in_8 _ (List.mem_of_getElem? (i := 20) rfl)
theorem wm_213 : Cond.fieldLink RX12 122 "LateMoverModel" "live" "[I" ∈ wsL_law := aw_in_8 _ (List.mem_of_getElem? (i := 21) rfl)
theorem wm_214 : Cond.fieldLink RX12 125 "LateMoverModel" "over" "[Z" ∈ wsL_law := aw_in_8 _ (List.mem_of_getElem? (i := 22) rfl)
theorem wm_215 : Cond.fieldLink RX12 128 "LateMoverModel" "seen" "[Z" ∈ wsL_law := aw_in_8 _ (List.mem_of_getElem? (i := 23) rfl)
theorem wm_216 : Cond.fieldLink RX12 131 "LateMoverModel" "deep" "[I" ∈ wsL_law := aw_in_9 _ (List.mem_of_getElem? (i := 0) rfl)
theorem wm_221 : Cond.methodLink RX11 102 yX9_size ∈ wsL_law := aw_in_9 _ (List.mem_of_getElem? (i := 5) rfl)
theorem wm_225 : Cond.fieldLink RX9 15 "LateMover$Text" "length" "I" ∈ wsL_law := aw_in_9 _ (List.mem_of_getElem? (i := 9) rfl)
theorem wm_226 : Cond.methodLink RX11 106 yX9_putFour ∈ wsL_law := aw_in_9 _ (List.mem_of_getElem? (i := 10) rfl)
theorem wm_230 : Cond.methodLink RX9 19 yX9_put ∈ wsL_law := aw_in_9 _ (List.mem_of_getElem? (i := 14) rfl)
theorem wm_238 : Cond.fieldLink RX12 134 "LateMoverModel" "taped" "I" ∈ wsL_law := aw_in_9 _ (List.mem_of_getElem? (i := 22) rfl)
theorem wm_239 : Cond.methodLink RX12 137 yX12_four ∈ wsL_law := aw_in_9 _ (List.mem_of_getElem? (i := 23) rfl)
theorem wm_247 : Cond.methodLink RX11 110 yX9_cut ∈ wsL_law := aw_in_10 _ (List.mem_of_getElem? (i := 7) rfl)
theorem wm_255 : Cond.methodLink RX12 141 yX12_isIn ∈ wsL_law := aw_in_10 _ (List.mem_of_getElem? (i := 15) rfl)
theorem wm_262 : Cond.fieldLink RX11 120 "LateMover$Graph" "nodes" "I" ∈ wsL_law := aw_in_10 _ (List.mem_of_getElem? (i := 22) rfl)
theorem wm_263 : Cond.methodLink RX11 113 yX7_faultOf ∈ wsL_law := aw_in_10 _ (List.mem_of_getElem? (i := 23) rfl)
theorem wm_267 : Cond.fieldLink RX7 57 "LateMover$Expressions" "count" "I" ∈ wsL_law := aw_in_11 _ (List.mem_of_getElem? (i := 3) rfl)
theorem wm_268 : Cond.fieldLink RX7 61 "LateMover$Reader" "lines" "I" ∈ wsL_law := aw_in_11 _ (List.mem_of_getElem? (i := 4) rfl)
theorem wm_269 : Cond.fieldLink RX7 64 "LateMover$Reader" "blocks" "I" ∈ wsL_law := aw_in_11 _ (List.mem_of_getElem? (i := 5) rfl)
theorem wm_270 : Cond.fieldLink RX7 67 "LateMover$Reader" "statements" "I" ∈ wsL_law := aw_in_11 _ (List.mem_of_getElem? (i := 6) rfl)
theorem wm_271 : Cond.fieldLink RX7 70 "LateMover$Reader" "at" "I" ∈ wsL_law := aw_in_11 _ (List.mem_of_getElem? (i := 7) rfl)
theorem wm_272 : Cond.fieldLink RX7 77 "LateMover$Reader" "wrong" "I" ∈ wsL_law := aw_in_11 _ (List.mem_of_getElem? (i := 8) rfl)
theorem wm_273 : Cond.methodLink RX7 53 yX9_copyFrom ∈ wsL_law := aw_in_11 _ (List.mem_of_getElem? (i := 9) rfl)
theorem wm_277 : Cond.methodLink RX9 23 arraycopyName ∈ wsL_law := aw_in_11 _ (List.mem_of_getElem? (i := 13) rfl)
theorem wm_281 : Cond.methodLink RX7 73 yX9_size ∈ wsL_law := aw_in_11 _ (List.mem_of_getElem? (i := 17) rfl)
theorem wm_282 : Cond.methodLink RX7 80 yX7_readBlock ∈ wsL_law := aw_in_11 _ (List.mem_of_getElem? (i := 18) rfl)
theorem wm_286 : Cond.methodLink RX7 90 yX7_refuse ∈ wsL_law := aw_in_11 _ (List.mem_of_getElem? (i := 22) rfl)
theorem wm_290 : Cond.methodLink RX7 94 yX7_startsStatement ∈ wsL_law := aw_in_12 _ (List.mem_of_getElem? (i := 2) rfl)
theorem wm_294 : Cond.methodLink RX7 87 yX9_at ∈ wsL_law := aw_in_12 _ (List.mem_of_getElem? (i := 6) rfl)
theorem wm_298 : Cond.methodLink RX7 106 yX7_isLetter ∈ wsL_law := aw_in_12 _ (List.mem_of_getElem? (i := 10) rfl)
theorem wm_301 : Cond.methodLink RX7 97 yX7_readStatement ∈ wsL_law := aw_in_12 _ (List.mem_of_getElem? (i := 13) rfl)
theorem wm_305 : Cond.methodLink RX7 109 yX7_readOperand ∈ wsL_law := aw_in_12 _ (List.mem_of_getElem? (i := 17) rfl)
theorem wm_309 : Cond.methodLink RX7 126 yX7_readNumber ∈ wsL_law := aw_in_12 _ (List.mem_of_getElem? (i := 21) rfl)
theorem wm_313 : Cond.methodLink RX7 129 yX7_isDigit ∈ wsL_law := aw_in_13 _ (List.mem_of_getElem? (i := 1) rfl)
theorem wm_316 : Cond.methodLink RX7 112 yX7_addStatement ∈ wsL_law := aw_in_13 _ (List.mem_of_getElem? (i := 4) rfl)
theorem wm_320 : Cond.methodLink RX7 132 yX7_addLine ∈ wsL_law := aw_in_13 _ (List.mem_of_getElem? (i := 8) rfl)
theorem wm_324 : Cond.methodLink RX7 100 yX7_take ∈ wsL_law := aw_in_13 _ (List.mem_of_getElem? (i := 12) rfl)
theorem wm_328 : Cond.methodLink RX7 116 yX7_readRightSide ∈ wsL_law := aw_in_13 _ (List.mem_of_getElem? (i := 16) rfl)
theorem wm_332 : Cond.methodLink RX7 119 yX7_isOperator ∈ wsL_law := aw_in_13 _ (List.mem_of_getElem? (i := 20) rfl)
theorem wm_335 : Cond.methodLink RX7 122 yX0_numberOf ∈ wsL_law := aw_in_13 _ (List.mem_of_getElem? (i := 23) rfl)
theorem wm_339 : Cond.fieldLink RX0 21 "LateMover$Expressions" "count" "I" ∈ wsL_law := aw_in_14 _ (List.mem_of_getElem? (i := 3) rfl)
theorem wm_340 : Cond.methodLink RX7 103 yX7_readEnd ∈ wsL_law := aw_in_14 _ (List.mem_of_getElem? (i := 4) rfl)
theorem wm_344 : Cond.methodLink RX7 135 yX7_readTarget ∈ wsL_law := aw_in_14 _ (List.mem_of_getElem? (i := 8) rfl)
theorem wm_348 : Cond.methodLink RX7 139 yX7_readChoice ∈ wsL_law := aw_in_14 _ (List.mem_of_getElem? (i := 12) rfl)
theorem wm_352 : Cond.methodLink RX7 84 yX7_findStrayNumber ∈ wsL_law := aw_in_14 _ (List.mem_of_getElem? (i := 16) rfl)
theorem wm_356 : Cond.methodLink RX11 117 yX11_settle ∈ wsL_law := aw_in_14 _ (List.mem_of_getElem? (i := 20) rfl)
theorem wm_360 : Cond.fieldLink RX11 131 "LateMover$Reader" "text" "LLateMover$Text;" ∈ wsL_law := aw_in_15 _ (List.mem_of_getElem? (i := 0) rfl)
theorem wm_361 : Cond.fieldLink RX11 142 "LateMover$Facts" "late" "[I" ∈ wsL_law := aw_in_15 _ (List.mem_of_getElem? (i := 1) rfl)
theorem wm_362 : Cond.fieldLink RX11 145 "LateMover$Facts" "alone" "[I" ∈ wsL_law := aw_in_15 _ (List.mem_of_getElem? (i := 2) rfl)
theorem wm_363 : Cond.fieldLink RX11 148 "LateMover$Facts" "early" "[I" ∈ wsL_law := aw_in_15 _ (List.mem_of_getElem? (i := 3) rfl)
theorem wm_364 : Cond.fieldLink RX11 151 "LateMover$Facts" "uses" "[I" ∈ wsL_law := aw_in_15 _ (List.mem_of_getElem? (i := 4) rfl)
theorem wm_365 : Cond.fieldLink RX11 158 "LateMover$Facts" "flow" "LLateMover$Flow;" ∈ wsL_law := aw_in_15 _ (List.mem_of_getElem? (i := 5) rfl)
theorem wm_366 : Cond.fieldLink RX11 168 "LateMover" "ran" "Z" ∈ wsL_law := aw_in_15 _ (List.mem_of_getElem? (i := 6) rfl)
theorem wm_367 : Cond.methodLink RX11 127 yX9_copyFrom ∈ wsL_law := aw_in_15 _ (List.mem_of_getElem? (i := 7) rfl)
theorem wm_368 : Cond.methodLink RX11 134 yX3_build ∈ wsL_law := aw_in_15 _ (List.mem_of_getElem? (i := 8) rfl)
theorem wm_372 : Cond.fieldLink RX3 55 "LateMover$Reader" "expressions" "LLateMover$Expressions;" ∈ wsL_law := aw_in_15 _ (List.mem_of_getElem? (i := 12) rfl)
theorem wm_373 : Cond.fieldLink RX3 62 "LateMover$Reader" "blocks" "I" ∈ wsL_law := aw_in_15 _ (List.mem_of_getElem? (i := 13) rfl)
theorem wm_374 : Cond.fieldLink RX3 66 "LateMover$Graph" "blocks" "I" ∈ wsL_law := aw_in_15 _ (List.mem_of_getElem? (i := 14) rfl)
theorem wm_375 : Cond.fieldLink RX3 67 "LateMover$Graph" "nodes" "I" ∈ wsL_law := aw_in_15 _ (List.mem_of_getElem? (i := 15) rfl)
theorem wm_376 : Cond.methodLink RX3 58 yX0_copyFrom ∈ wsL_law := aw_in_15 _ (List.mem_of_getElem? (i := 16) rfl)
theorem wm_380 : Cond.methodLink RX0 33 arraycopyName ∈ wsL_law := aw_in_15 _ (List.mem_of_getElem? (i := 20) rfl)
theorem wm_381 : Cond.methodLink RX3 70 yX3_add ∈ wsL_law := aw_in_15 _ (List.mem_of_getElem? (i := 21) rfl)
theorem wm_385 : Cond.methodLink RX3 74 yX3_addReached ∈ wsL_law := aw_in_16 _ (List.mem_of_getElem? (i := 1) rfl)
theorem wm_389 : Cond.fieldLink RX3 97 "LateMover$Reader" "lines" "I" ∈ wsL_law := aw_in_16 _ (List.mem_of_getElem? (i := 5) rfl)
theorem wm_390 : Cond.fieldLink RX3 100 "LateMover$Reader" "block" "[I" ∈ wsL_law := aw_in_16 _ (List.mem_of_getElem? (i := 6) rfl)
theorem wm_391 : Cond.fieldLink RX3 101 "LateMover$Reader" "kind" "[I" ∈ wsL_law := aw_in_16 _ (List.mem_of_getElem? (i := 7) rfl)
theorem wm_392 : Cond.methodLink RX3 87 yX3_reachedBlocks ∈ wsL_law := aw_in_16 _ (List.mem_of_getElem? (i := 8) rfl)
theorem wm_395 : Cond.fieldLink RX3 108 "LateMover$Reader" "to" "[I" ∈ wsL_law := aw_in_16 _ (List.mem_of_getElem? (i := 11) rfl)
theorem wm_396 : Cond.fieldLink RX3 109 "LateMover$Reader" "orTo" "[I" ∈ wsL_law := aw_in_16 _ (List.mem_of_getElem? (i := 12) rfl)
theorem wm_397 : Cond.methodLink RX3 110 yX3_blockBit ∈ wsL_law := aw_in_16 _ (List.mem_of_getElem? (i := 13) rfl)
theorem wm_400 : Cond.methodLink RX3 91 yJ7_fill_53178 ∈ wsL_law := aw_in_16 _ (List.mem_of_getElem? (i := 16) rfl)
theorem wm_404 : Cond.methodLink RX3 102 yX3_fill ∈ wsL_law := aw_in_16 _ (List.mem_of_getElem? (i := 20) rfl)
theorem wm_408 : Cond.fieldLink RX3 105 "LateMover$Reader" "letter" "[I" ∈ wsL_law := aw_in_17 _ (List.mem_of_getElem? (i := 0) rfl)
theorem wm_409 : Cond.fieldLink RX3 106 "LateMover$Reader" "operand" "[I" ∈ wsL_law := aw_in_17 _ (List.mem_of_getElem? (i := 1) rfl)
theorem wm_410 : Cond.fieldLink RX3 107 "LateMover$Reader" "expression" "[I" ∈ wsL_law := aw_in_17 _ (List.mem_of_getElem? (i := 2) rfl)
theorem wm_411 : Cond.methodLink RX3 78 yX3_joinNodes ∈ wsL_law := aw_in_17 _ (List.mem_of_getElem? (i := 3) rfl)
theorem wm_415 : Cond.methodLink RX3 113 yX3_startOf ∈ wsL_law := aw_in_17 _ (List.mem_of_getElem? (i := 7) rfl)
theorem wm_419 : Cond.methodLink RX3 81 yX3_splitEdges ∈ wsL_law := aw_in_17 _ (List.mem_of_getElem? (i := 11) rfl)
theorem wm_423 : Cond.methodLink RX3 116 yX3_edgesFrom ∈ wsL_law := aw_in_17 _ (List.mem_of_getElem? (i := 15) rfl)
theorem wm_427 : Cond.methodLink RX3 129 yX3_isNode ∈ wsL_law := aw_in_17 _ (List.mem_of_getElem? (i := 19) rfl)
theorem wm_433 : Cond.methodLink RX3 119 yX3_splitIfOthersCome ∈ wsL_law := aw_in_18 _ (List.mem_of_getElem? (i := 1) rfl)
theorem wm_437 : Cond.methodLink RX3 122 yX3_comingTo ∈ wsL_law := aw_in_18 _ (List.mem_of_getElem? (i := 5) rfl)
theorem wm_441 : Cond.methodLink RX3 84 yX3_listFrom ∈ wsL_law := aw_in_18 _ (List.mem_of_getElem? (i := 9) rfl)
theorem wm_445 : Cond.methodLink RX11 138 yX1_build ∈ wsL_law := aw_in_18 _ (List.mem_of_getElem? (i := 13) rfl)
theorem wm_449 : Cond.fieldLink RX1 52 "LateMover$Graph" "expressions" "LLateMover$Expressions;" ∈ wsL_law := aw_in_18 _ (List.mem_of_getElem? (i := 17) rfl)
theorem wm_450 : Cond.fieldLink RX1 58 "LateMover$Expressions" "count" "I" ∈ wsL_law := aw_in_18 _ (List.mem_of_getElem? (i := 18) rfl)
theorem wm_451 : Cond.fieldLink RX1 64 "LateMover$Facts" "all" "I" ∈ wsL_law := aw_in_18 _ (List.mem_of_getElem? (i := 19) rfl)
theorem wm_452 : Cond.fieldLink RX1 67 "LateMover$Graph" "nodes" "I" ∈ wsL_law := aw_in_18 _ (List.mem_of_getElem? (i := 20) rfl)
theorem wm_453 : Cond.methodLink RX1 70 yX1_usedAt ∈ wsL_law := aw_in_18 _ (List.mem_of_getElem? (i := 21) rfl)
theorem wm_456 : Cond.fieldLink RX1 105 "LateMover$Graph" "expression" "[I" ∈ wsL_law := aw_in_19 _ (List.mem_of_getElem? (i := 0) rfl)
theorem wm_457 : Cond.methodLink RX1 108 yX0_isOne ∈ wsL_law := aw_in_19 _ (List.mem_of_getElem? (i := 1) rfl)
theorem wm_461 : Cond.methodLink RX1 74 yX1_keptAt ∈ wsL_law := aw_in_19 _ (List.mem_of_getElem? (i := 5) rfl)
theorem wm_464 : Cond.methodLink RX1 112 yX1_letterChangedAt ∈ wsL_law := aw_in_19 _ (List.mem_of_getElem? (i := 8) rfl)
theorem wm_467 : Cond.fieldLink RX1 129 "LateMover$Graph" "kind" "[I" ∈ wsL_law := aw_in_19 _ (List.mem_of_getElem? (i := 11) rfl)
theorem wm_468 : Cond.fieldLink RX1 132 "LateMover$Graph" "letter" "[I" ∈ wsL_law := aw_in_19 _ (List.mem_of_getElem? (i := 12) rfl)
theorem wm_469 : Cond.methodLink RX1 115 yX0_letterBit ∈ wsL_law := aw_in_19 _ (List.mem_of_getElem? (i := 13) rfl)
theorem wm_472 : Cond.methodLink RX1 119 yX0_lettersOf ∈ wsL_law := aw_in_19 _ (List.mem_of_getElem? (i := 16) rfl)
theorem wm_476 : Cond.methodLink RX0 25 yX0_isOne ∈ wsL_law := aw_in_19 _ (List.mem_of_getElem? (i := 20) rfl)
theorem wm_477 : Cond.methodLink RX0 29 yX0_letterBit ∈ wsL_law := aw_in_19 _ (List.mem_of_getElem? (i := 21) rfl)
theorem wm_478 : Cond.methodLink RX1 122 yX0_isRisky ∈ wsL_law := aw_in_19 _ (List.mem_of_getElem? (i := 22) rfl)
theorem wm_482 : Cond.methodLink RX1 125 yX1_hinders ∈ wsL_law := aw_in_20 _ (List.mem_of_getElem? (i := 2) rfl)
theorem wm_485 : Cond.methodLink RX1 77 yX1_findSound ∈ wsL_law := aw_in_20 _ (List.mem_of_getElem? (i := 5) rfl)
theorem wm_489 : Cond.fieldLink RX1 157 "LateMover$Facts" "sound" "Z" ∈ wsL_law := aw_in_20 _ (List.mem_of_getElem? (i := 9) rfl)
theorem wm_490 : Cond.methodLink RX1 138 yX3_edgesFrom ∈ wsL_law := aw_in_20 _ (List.mem_of_getElem? (i := 10) rfl)
theorem wm_491 : Cond.methodLink RX1 145 yX2_tell ∈ wsL_law := aw_in_20 _ (List.mem_of_getElem? (i := 11) rfl)
theorem wm_495 : Cond.methodLink RX1 149 yX2_solve ∈ wsL_law := aw_in_20 _ (List.mem_of_getElem? (i := 15) rfl)
theorem wm_499 : Cond.fieldLink RX2 30 "LateMover$Graph" "nodes" "I" ∈ wsL_law := aw_in_20 _ (List.mem_of_getElem? (i := 19) rfl)
theorem wm_500 : Cond.methodLink RX2 24 yJ7_fill_53178 ∈ wsL_law := aw_in_20 _ (List.mem_of_getElem? (i := 20) rfl)
theorem wm_501 : Cond.methodLink RX2 36 yX2_inAll ∈ wsL_law := aw_in_20 _ (List.mem_of_getElem? (i := 21) rfl)
theorem wm_505 : Cond.methodLink RX2 44 yX3_edgesFrom ∈ wsL_law := aw_in_21 _ (List.mem_of_getElem? (i := 1) rfl)
theorem wm_506 : Cond.methodLink RX2 48 yX3_edgesTo ∈ wsL_law := aw_in_21 _ (List.mem_of_getElem? (i := 2) rfl)
theorem wm_510 : Cond.methodLink RX2 51 yX3_kthTarget ∈ wsL_law := aw_in_21 _ (List.mem_of_getElem? (i := 6) rfl)
theorem wm_514 : Cond.methodLink RX2 55 yX3_kthSource ∈ wsL_law := aw_in_21 _ (List.mem_of_getElem? (i := 10) rfl)
theorem wm_518 : Cond.methodLink RX2 58 yX2_side ∈ wsL_law := aw_in_21 _ (List.mem_of_getElem? (i := 14) rfl)
theorem wm_522 : Cond.methodLink RX2 62 yX3_isNode ∈ wsL_law := aw_in_21 _ (List.mem_of_getElem? (i := 18) rfl)
theorem wm_523 : Cond.methodLink RX2 40 yX2_inOne ∈ wsL_law := aw_in_21 _ (List.mem_of_getElem? (i := 19) rfl)
theorem wm_527 : Cond.methodLink RX1 153 yX3_nodesWith ∈ wsL_law := aw_in_21 _ (List.mem_of_getElem? (i := 23) rfl)
theorem wm_531 : Cond.methodLink RX1 81 yX1_findLive ∈ wsL_law := aw_in_22 _ (List.mem_of_getElem? (i := 3) rfl)
theorem wm_535 : Cond.methodLink RX1 161 yX1_lettersReadAt ∈ wsL_law := aw_in_22 _ (List.mem_of_getElem? (i := 7) rfl)
theorem wm_538 : Cond.fieldLink RX1 135 "LateMover$Graph" "operand" "[I" ∈ wsL_law := aw_in_22 _ (List.mem_of_getElem? (i := 10) rfl)
theorem wm_539 : Cond.methodLink RX1 84 yX1_findNeeded ∈ wsL_law := aw_in_22 _ (List.mem_of_getElem? (i := 11) rfl)
theorem wm_543 : Cond.methodLink RX1 87 yX1_findAtHand ∈ wsL_law := aw_in_22 _ (List.mem_of_getElem? (i := 15) rfl)
theorem wm_547 : Cond.methodLink RX1 90 yX1_findMaybe ∈ wsL_law := aw_in_22 _ (List.mem_of_getElem? (i := 19) rfl)
theorem wm_551 : Cond.methodLink RX1 93 yX1_findEarly ∈ wsL_law := aw_in_22 _ (List.mem_of_getElem? (i := 23) rfl)
theorem wm_555 : Cond.methodLink RX1 171 yX3_edgesTo ∈ wsL_law := aw_in_23 _ (List.mem_of_getElem? (i := 3) rfl)
theorem wm_556 : Cond.methodLink RX1 174 yX3_kthSource ∈ wsL_law := aw_in_23 _ (List.mem_of_getElem? (i := 4) rfl)
theorem wm_557 : Cond.methodLink RX1 168 yX3_isNode ∈ wsL_law := aw_in_23 _ (List.mem_of_getElem? (i := 5) rfl)
theorem wm_558 : Cond.methodLink RX1 96 yX1_findDelayed ∈ wsL_law := aw_in_23 _ (List.mem_of_getElem? (i := 6) rfl)
theorem wm_562 : Cond.methodLink RX1 99 yX1_findLate ∈ wsL_law := aw_in_23 _ (List.mem_of_getElem? (i := 10) rfl)
theorem wm_566 : Cond.methodLink RX1 164 yX3_kthTarget ∈ wsL_law := aw_in_23 _ (List.mem_of_getElem? (i := 14) rfl)
theorem wm_567 : Cond.methodLink RX1 102 yX1_findAlone ∈ wsL_law := aw_in_23 _ (List.mem_of_getElem? (i := 15) rfl)
theorem wm_571 : Cond.methodLink RX11 141 yX4_build ∈ wsL_law := aw_in_23 _ (List.mem_of_getElem? (i := 19) rfl)
theorem wm_575 : Cond.fieldLink RX4 35 "LateMover$Loops" "headCount" "I" ∈ wsL_law := aw_in_23 _ (List.mem_of_getElem? (i := 23) rfl)
theorem wm_576 : Cond.fieldLink RX4 39 "LateMover$Graph" "nodes" "I" ∈ wsL_law := aw_in_24 _ (List.mem_of_getElem? (i := 0) rfl)
theorem wm_577 : Cond.methodLink RX4 25 yX4_findOver ∈ wsL_law := aw_in_24 _ (List.mem_of_getElem? (i := 1) rfl)
theorem wm_581 : Cond.constantLong RX4 52 (-1) ∈ wsL_law := aw_in_24 _ (List.mem_of_getElem? (i := 5) rfl)
theorem wm_582 : Cond.methodLink RX4 54 yJ7_fill_d0a16 ∈ wsL_law := aw_in_24 _ (List.mem_of_getElem? (i := 6) rfl)
theorem wm_585 : Cond.methodLink RX4 57 yX4_narrowsAt ∈ wsL_law := aw_in_24 _ (List.mem_of_getElem? (i := 9) rfl)
theorem wm_589 : Cond.methodLink RX4 60 yX3_edgesTo ∈ wsL_law := aw_in_24 _ (List.mem_of_getElem? (i := 13) rfl)
theorem wm_590 : Cond.methodLink RX4 64 yX3_kthSource ∈ wsL_law := aw_in_24 _ (List.mem_of_getElem? (i := 14) rfl)
theorem wm_591 : Cond.methodLink RX4 68 yX3_isNode ∈ wsL_law := aw_in_24 _ (List.mem_of_getElem? (i := 15) rfl)
theorem wm_592 : Cond.methodLink RX4 29 yJ7_fill_53178 ∈ wsL_law := aw_in_24 _ (List.mem_of_getElem? (i := 16) rfl)
theorem wm_593 : Cond.methodLink RX4 44 yX4_isHead ∈ wsL_law := aw_in_24 _ (List.mem_of_getElem? (i := 17) rfl)
theorem wm_597 : Cond.methodLink RX4 72 yX4_isOver ∈ wsL_law := aw_in_24 _ (List.mem_of_getElem? (i := 21) rfl)
theorem wm_601 : Cond.methodLink RX4 48 yX4_addLoop ∈ wsL_law := aw_in_25 _ (List.mem_of_getElem? (i := 1) rfl)
theorem wm_605 : Cond.methodLink RX4 76 yX4_leadsInside ∈ wsL_law := aw_in_25 _ (List.mem_of_getElem? (i := 5) rfl)
theorem wm_609 : Cond.methodLink RX4 79 yX3_edgesFrom ∈ wsL_law := aw_in_25 _ (List.mem_of_getElem? (i := 9) rfl)
theorem wm_610 : Cond.methodLink RX4 82 yX3_kthTarget ∈ wsL_law := aw_in_25 _ (List.mem_of_getElem? (i := 10) rfl)
theorem wm_611 : Cond.methodLink RX11 154 yX6_tell ∈ wsL_law := aw_in_25 _ (List.mem_of_getElem? (i := 11) rfl)
theorem wm_615 : Cond.methodLink RX11 162 yX6_build ∈ wsL_law := aw_in_25 _ (List.mem_of_getElem? (i := 15) rfl)
theorem wm_619 : Cond.fieldLink RX6 27 "LateMover$Graph" "nodes" "I" ∈ wsL_law := aw_in_25 _ (List.mem_of_getElem? (i := 19) rfl)
theorem wm_620 : Cond.methodLink RX6 33 yX2_tell ∈ wsL_law := aw_in_25 _ (List.mem_of_getElem? (i := 20) rfl)
theorem wm_621 : Cond.methodLink RX6 39 yX2_solve ∈ wsL_law := aw_in_25 _ (List.mem_of_getElem? (i := 21) rfl)
theorem wm_622 : Cond.methodLink RX6 43 yX6_findClashes ∈ wsL_law := aw_in_25 _ (List.mem_of_getElem? (i := 22) rfl)
theorem wm_626 : Cond.fieldLink RX6 50 "LateMover$Graph" "expressions" "LLateMover$Expressions;" ∈ wsL_law := aw_in_26 _ (List.mem_of_getElem? (i := 2) rfl)
theorem wm_627 : Cond.fieldLink RX6 54 "LateMover$Expressions" "count" "I" ∈ wsL_law := aw_in_26 _ (List.mem_of_getElem? (i := 3) rfl)
theorem wm_630 : Cond.methodLink RX6 47 yX6_shareNames ∈ wsL_law := aw_in_26 _ (List.mem_of_getElem? (i := 6) rfl)
theorem wm_634 : Cond.fieldLink RX6 63 "LateMover$Placement" "names" "I" ∈ wsL_law := aw_in_26 _ (List.mem_of_getElem? (i := 10) rfl)
theorem wm_635 : Cond.methodLink RX6 74 Lib.Math.max.name ∈ wsL_law := aw_in_26 _ (List.mem_of_getElem? (i := 11) rfl)
theorem wm_639 : Cond.methodLink RX6 66 yX3_nodesWith ∈ wsL_law := aw_in_26 _ (List.mem_of_getElem? (i := 15) rfl)
theorem wm_640 : Cond.methodLink RX6 70 yX6_firstFreeName ∈ wsL_law := aw_in_26 _ (List.mem_of_getElem? (i := 16) rfl)
theorem wm_644 : Cond.methodLink RX11 165 yX5_forget ∈ wsL_law := aw_in_26 _ (List.mem_of_getElem? (i := 20) rfl)
theorem wm_648 : Cond.fieldLink RX5 32 "LateMover$Others" "known" "I" ∈ wsL_law := aw_in_27 _ (List.mem_of_getElem? (i := 0) rfl)
theorem wm_653 : Cond.fieldLink RX12 215 "LateMoverModel" "nodes" "I" ∈ wsL_law := aw_in_27 _ (List.mem_of_getElem? (i := 5) rfl)
theorem wm_654 : Cond.methodLink RX12 206 yX12_readProgram ∈ wsL_law := aw_in_27 _ (List.mem_of_getElem? (i := 6) rfl)
theorem wm_658 : Cond.fieldLink RX12 145 "LateMoverModel" "at" "I" ∈ wsL_law := aw_in_27 _ (List.mem_of_getElem? (i := 10) rfl)
theorem wm_659 : Cond.methodLink RX12 176 yX12_put ∈ wsL_law := aw_in_27 _ (List.mem_of_getElem? (i := 11) rfl)
theorem wm_663 : Cond.methodLink RX12 152 yX12_fails ∈ wsL_law := aw_in_27 _ (List.mem_of_getElem? (i := 15) rfl)
theorem wm_667 : Cond.methodLink RX12 203 yX12_readBlock ∈ wsL_law := aw_in_27 _ (List.mem_of_getElem? (i := 19) rfl)
theorem wm_671 : Cond.methodLink RX12 168 yX12_read ∈ wsL_law := aw_in_27 _ (List.mem_of_getElem? (i := 23) rfl)
theorem wm_675 : Cond.methodLink RX12 148 yX12_here ∈ wsL_law := aw_in_28 _ (List.mem_of_getElem? (i := 3) rfl)
theorem wm_679 : Cond.methodLink RX12 162 yX12_isLetter ∈ wsL_law := aw_in_28 _ (List.mem_of_getElem? (i := 7) rfl)
theorem wm_682 : Cond.methodLink RX12 197 yX12_readStatement ∈ wsL_law := aw_in_28 _ (List.mem_of_getElem? (i := 10) rfl)
theorem wm_686 : Cond.fieldLink RX12 159 "LateMoverModel" "number" "I" ∈ wsL_law := aw_in_28 _ (List.mem_of_getElem? (i := 14) rfl)
theorem wm_687 : Cond.methodLink RX12 172 yX12_readA ∈ wsL_law := aw_in_28 _ (List.mem_of_getElem? (i := 15) rfl)
theorem wm_691 : Cond.methodLink RX12 165 yX12_readDigits ∈ wsL_law := aw_in_28 _ (List.mem_of_getElem? (i := 19) rfl)
theorem wm_695 : Cond.methodLink RX12 156 yX12_isFigure ∈ wsL_law := aw_in_28 _ (List.mem_of_getElem? (i := 23) rfl)
theorem wm_698 : Cond.methodLink RX12 187 yX12_takes ∈ wsL_law := aw_in_29 _ (List.mem_of_getElem? (i := 2) rfl)
theorem wm_702 : Cond.methodLink RX12 190 yX12_readWorth ∈ wsL_law := aw_in_29 _ (List.mem_of_getElem? (i := 6) rfl)
theorem wm_706 : Cond.methodLink RX12 180 yX12_isSign ∈ wsL_law := aw_in_29 _ (List.mem_of_getElem? (i := 10) rfl)
theorem wm_709 : Cond.methodLink RX12 183 yX12_findExpression ∈ wsL_law := aw_in_29 _ (List.mem_of_getElem? (i := 13) rfl)
theorem wm_713 : Cond.methodLink RX12 200 yX12_readEnd ∈ wsL_law := aw_in_29 _ (List.mem_of_getElem? (i := 17) rfl)
theorem wm_717 : Cond.methodLink RX12 193 yX12_readNumber ∈ wsL_law := aw_in_29 _ (List.mem_of_getElem? (i := 21) rfl)
theorem wm_721 : Cond.methodLink RX12 209 yX12_copyRow ∈ wsL_law := aw_in_30 _ (List.mem_of_getElem? (i := 1) rfl)
theorem wm_725 : Cond.methodLink RX12 212 yX12_lay ∈ wsL_law := aw_in_30 _ (List.mem_of_getElem? (i := 5) rfl)
theorem wm_729 : Cond.fieldLink RX12 231 "LateMoverModel" "isProgram" "Z" ∈ wsL_law := aw_in_30 _ (List.mem_of_getElem? (i := 9) rfl)
theorem wm_730 : Cond.fieldLink RX12 235 "LateMoverModel" "wasRun" "Z" ∈ wsL_law := aw_in_30 _ (List.mem_of_getElem? (i := 10) rfl)
theorem wm_731 : Cond.fieldLink RX12 253 "LateMoverModel" "isSound" "Z" ∈ wsL_law := aw_in_30 _ (List.mem_of_getElem? (i := 11) rfl)
theorem wm_732 : Cond.methodLink RX12 238 yX12_layCome ∈ wsL_law := aw_in_30 _ (List.mem_of_getElem? (i := 12) rfl)
theorem wm_736 : Cond.methodLink RX12 218 yX12_get ∈ wsL_law := aw_in_30 _ (List.mem_of_getElem? (i := 16) rfl)
theorem wm_740 : Cond.methodLink RX12 241 yX12_layNodes ∈ wsL_law := aw_in_30 _ (List.mem_of_getElem? (i := 20) rfl)
theorem wm_744 : Cond.methodLink RX12 221 yX12_layNode ∈ wsL_law := aw_in_31 _ (List.mem_of_getElem? (i := 0) rfl)
theorem wm_748 : Cond.methodLink RX12 225 yX12_layEnd ∈ wsL_law := aw_in_31 _ (List.mem_of_getElem? (i := 4) rfl)
theorem wm_752 : Cond.methodLink RX12 244 yX12_countCome ∈ wsL_law := aw_in_31 _ (List.mem_of_getElem? (i := 8) rfl)
theorem wm_756 : Cond.methodLink RX12 247 yX12_split ∈ wsL_law := aw_in_31 _ (List.mem_of_getElem? (i := 12) rfl)
theorem wm_760 : Cond.methodLink RX12 250 yX12_areAllLeading ∈ wsL_law := aw_in_31 _ (List.mem_of_getElem? (i := 16) rfl)
theorem wm_764 : Cond.methodLink RX12 228 yX12_isLast ∈ wsL_law := aw_in_31 _ (List.mem_of_getElem? (i := 20) rfl)
theorem wm_768 : Cond.methodLink RX12 256 yX12_layFacts ∈ wsL_law := aw_in_32 _ (List.mem_of_getElem? (i := 0) rfl)
theorem wm_772 : Cond.methodLink RX12 305 yX12_doesUse ∈ wsL_law := aw_in_32 _ (List.mem_of_getElem? (i := 4) rfl)
theorem wm_776 : Cond.methodLink RX12 280 yX12_expressionOf ∈ wsL_law := aw_in_32 _ (List.mem_of_getElem? (i := 8) rfl)
theorem wm_780 : Cond.methodLink RX12 295 yX12_set ∈ wsL_law := aw_in_32 _ (List.mem_of_getElem? (i := 12) rfl)
theorem wm_784 : Cond.methodLink RX12 289 yX12_cell ∈ wsL_law := aw_in_32 _ (List.mem_of_getElem? (i := 16) rfl)
theorem wm_787 : Cond.methodLink RX12 308 yX12_doesKeep ∈ wsL_law := aw_in_32 _ (List.mem_of_getElem? (i := 19) rfl)
theorem wm_791 : Cond.methodLink RX12 274 yX12_changed ∈ wsL_law := aw_in_32 _ (List.mem_of_getElem? (i := 23) rfl)
theorem wm_795 : Cond.methodLink RX12 286 yX12_isRisky ∈ wsL_law := aw_in_33 _ (List.mem_of_getElem? (i := 3) rfl)
theorem wm_799 : Cond.methodLink RX12 311 yX12_layAhead ∈ wsL_law := aw_in_33 _ (List.mem_of_getElem? (i := 7) rfl)
theorem wm_803 : Cond.methodLink RX12 292 yX12_so ∈ wsL_law := aw_in_33 _ (List.mem_of_getElem? (i := 11) rfl)
theorem wm_807 : Cond.methodLink RX12 299 yX12_staysAhead ∈ wsL_law := aw_in_33 _ (List.mem_of_getElem? (i := 15) rfl)
theorem wm_811 : Cond.methodLink RX12 314 yX12_layBehind ∈ wsL_law := aw_in_33 _ (List.mem_of_getElem? (i := 19) rfl)
theorem wm_815 : Cond.methodLink RX12 302 yX12_lets ∈ wsL_law := aw_in_33 _ (List.mem_of_getElem? (i := 23) rfl)
theorem wm_819 : Cond.methodLink RX12 317 yX12_layEarly ∈ wsL_law := aw_in_34 _ (List.mem_of_getElem? (i := 3) rfl)
theorem wm_823 : Cond.methodLink RX12 320 yX12_layLate ∈ wsL_law := aw_in_34 _ (List.mem_of_getElem? (i := 7) rfl)
theorem wm_827 : Cond.methodLink RX12 323 yX12_at ∈ wsL_law := aw_in_34 _ (List.mem_of_getElem? (i := 11) rfl)
theorem wm_830 : Cond.methodLink RX12 326 yX12_layAlive ∈ wsL_law := aw_in_34 _ (List.mem_of_getElem? (i := 14) rfl)
theorem wm_834 : Cond.methodLink RX12 259 yX12_layLive ∈ wsL_law := aw_in_34 _ (List.mem_of_getElem? (i := 18) rfl)
theorem wm_838 : Cond.methodLink RX12 454 yX12_reads ∈ wsL_law := aw_in_34 _ (List.mem_of_getElem? (i := 22) rfl)
theorem wm_842 : Cond.methodLink RX12 451 yX12_bitOf ∈ wsL_law := aw_in_35 _ (List.mem_of_getElem? (i := 2) rfl)
theorem wm_845 : Cond.methodLink RX12 457 yX12_liveBehind ∈ wsL_law := aw_in_35 _ (List.mem_of_getElem? (i := 5) rfl)
theorem wm_849 : Cond.methodLink RX12 262 yX12_layOver ∈ wsL_law := aw_in_35 _ (List.mem_of_getElem? (i := 9) rfl)
theorem wm_853 : Cond.methodLink RX12 265 yX12_layDeep ∈ wsL_law := aw_in_35 _ (List.mem_of_getElem? (i := 13) rfl)
theorem wm_857 : Cond.fieldLink RX12 466 "LateMoverModel" "headMany" "I" ∈ wsL_law := aw_in_35 _ (List.mem_of_getElem? (i := 17) rfl)
theorem wm_858 : Cond.methodLink RX12 469 yX12_isHead ∈ wsL_law := aw_in_35 _ (List.mem_of_getElem? (i := 18) rfl)
theorem wm_862 : Cond.methodLink RX12 463 yX12_isOver ∈ wsL_law := aw_in_35 _ (List.mem_of_getElem? (i := 22) rfl)
theorem wm_866 : Cond.methodLink RX12 472 yX12_layComing ∈ wsL_law := aw_in_36 _ (List.mem_of_getElem? (i := 2) rfl)
theorem wm_882 : Cond.fieldLink RX11 172 "LateMover$Graph" "blocks" "I" ∈ wsL_law := aw_in_36 _ (List.mem_of_getElem? (i := 18) rfl)
theorem wm_883 : Cond.fieldLink RX11 175 "LateMover$Graph" "expressions" "LLateMover$Expressions;" ∈ wsL_law := aw_in_36 _ (List.mem_of_getElem? (i := 19) rfl)
theorem wm_884 : Cond.fieldLink RX11 179 "LateMover$Expressions" "count" "I" ∈ wsL_law := aw_in_36 _ (List.mem_of_getElem? (i := 20) rfl)
theorem wm_885 : Cond.fieldLink RX11 191 "LateMover$Facts" "sound" "Z" ∈ wsL_law := aw_in_36 _ (List.mem_of_getElem? (i := 21) rfl)
theorem wm_886 : Cond.methodLink RX11 184 yX3_edges ∈ wsL_law := aw_in_36 _ (List.mem_of_getElem? (i := 22) rfl)
theorem wm_890 : Cond.methodLink RX11 187 yX3_countOf ∈ wsL_law := aw_in_37 _ (List.mem_of_getElem? (i := 2) rfl)
theorem wm_894 : Cond.methodLink RX11 194 yX11_oneIf ∈ wsL_law := aw_in_37 _ (List.mem_of_getElem? (i := 6) rfl)
theorem wm_899 : Cond.methodLink RX12 268 yX12_edges ∈ wsL_law := aw_in_37 _ (List.mem_of_getElem? (i := 11) rfl)
theorem wm_903 : Cond.methodLink RX12 271 yX12_countNodes ∈ wsL_law := aw_in_37 _ (List.mem_of_getElem? (i := 15) rfl)
theorem wm_911 : Cond.fieldLink RX11 202 "LateMover$Graph" "kind" "[I" ∈ wsL_law := aw_in_37 _ (List.mem_of_getElem? (i := 23) rfl)
theorem wm_912 : Cond.fieldLink RX11 205 "LateMover$Graph" "block" "[I" ∈ wsL_law := aw_in_38 _ (List.mem_of_getElem? (i := 0) rfl)
theorem wm_913 : Cond.fieldLink RX11 208 "LateMover$Graph" "expression" "[I" ∈ wsL_law := aw_in_38 _ (List.mem_of_getElem? (i := 1) rfl)
theorem wm_914 : Cond.fieldLink RX11 211 "LateMover$Graph" "letter" "[I" ∈ wsL_law := aw_in_38 _ (List.mem_of_getElem? (i := 2) rfl)
theorem wm_915 : Cond.fieldLink RX11 220 "LateMover$Graph" "first" "[I" ∈ wsL_law := aw_in_38 _ (List.mem_of_getElem? (i := 3) rfl)
theorem wm_916 : Cond.fieldLink RX11 223 "LateMover$Graph" "second" "[I" ∈ wsL_law := aw_in_38 _ (List.mem_of_getElem? (i := 4) rfl)
theorem wm_917 : Cond.methodLink RX11 198 yX3_isNode ∈ wsL_law := aw_in_38 _ (List.mem_of_getElem? (i := 5) rfl)
theorem wm_918 : Cond.methodLink RX11 214 yX3_edgesFrom ∈ wsL_law := aw_in_38 _ (List.mem_of_getElem? (i := 6) rfl)
theorem wm_919 : Cond.methodLink RX11 217 yX3_edgesTo ∈ wsL_law := aw_in_38 _ (List.mem_of_getElem? (i := 7) rfl)
theorem wm_924 : Cond.methodLink RX12 277 yX12_isNode ∈ wsL_law := aw_in_38 _ (List.mem_of_getElem? (i := 12) rfl)
theorem wm_928 : Cond.methodLink RX12 283 yX12_letterOf ∈ wsL_law := aw_in_38 _ (List.mem_of_getElem? (i := 16) rfl)
theorem wm_936 : Cond.fieldLink RX11 229 "LateMover$Expressions" "sign" "[I" ∈ wsL_law := aw_in_39 _ (List.mem_of_getElem? (i := 0) rfl)
theorem wm_937 : Cond.fieldLink RX11 232 "LateMover$Expressions" "left" "[I" ∈ wsL_law := aw_in_39 _ (List.mem_of_getElem? (i := 1) rfl)
theorem wm_938 : Cond.fieldLink RX11 235 "LateMover$Expressions" "right" "[I" ∈ wsL_law := aw_in_39 _ (List.mem_of_getElem? (i := 2) rfl)
theorem wm_939 : Cond.fieldLink RX11 245 "LateMover$Facts" "keeps" "[I" ∈ wsL_law := aw_in_39 _ (List.mem_of_getElem? (i := 3) rfl)
theorem wm_940 : Cond.methodLink RX11 226 yX0_isOne ∈ wsL_law := aw_in_39 _ (List.mem_of_getElem? (i := 4) rfl)
theorem wm_941 : Cond.methodLink RX11 238 yX0_isRisky ∈ wsL_law := aw_in_39 _ (List.mem_of_getElem? (i := 5) rfl)
theorem wm_942 : Cond.methodLink RX11 241 yX3_nodesWith ∈ wsL_law := aw_in_39 _ (List.mem_of_getElem? (i := 6) rfl)
theorem wm_947 : Cond.methodLink RX12 329 yX12_isExpression ∈ wsL_law := aw_in_39 _ (List.mem_of_getElem? (i := 11) rfl)
theorem wm_963 : Cond.fieldLink RX11 255 "LateMover$Facts" "needed" "[I" ∈ wsL_law := aw_in_40 _ (List.mem_of_getElem? (i := 3) rfl)
theorem wm_964 : Cond.fieldLink RX11 258 "LateMover$Facts" "atHand" "[I" ∈ wsL_law := aw_in_40 _ (List.mem_of_getElem? (i := 4) rfl)
theorem wm_965 : Cond.fieldLink RX11 261 "LateMover$Facts" "delayed" "[I" ∈ wsL_law := aw_in_40 _ (List.mem_of_getElem? (i := 5) rfl)
theorem wm_966 : Cond.methodLink RX11 248 yX11_isSoundOne ∈ wsL_law := aw_in_40 _ (List.mem_of_getElem? (i := 6) rfl)
theorem wm_970 : Cond.methodLink RX11 251 yX11_bitOf ∈ wsL_law := aw_in_40 _ (List.mem_of_getElem? (i := 10) rfl)
theorem wm_979 : Cond.fieldLink RX11 271 "LateMover$Placement" "put" "[I" ∈ wsL_law := aw_in_40 _ (List.mem_of_getElem? (i := 19) rfl)
theorem wm_980 : Cond.fieldLink RX11 274 "LateMover$Placement" "replaced" "[I" ∈ wsL_law := aw_in_40 _ (List.mem_of_getElem? (i := 20) rfl)
theorem wm_981 : Cond.fieldLink RX11 277 "LateMover$Placement" "alive" "[I" ∈ wsL_law := aw_in_40 _ (List.mem_of_getElem? (i := 21) rfl)
theorem wm_982 : Cond.methodLink RX11 264 yX11_isMoved ∈ wsL_law := aw_in_40 _ (List.mem_of_getElem? (i := 22) rfl)
theorem wm_986 : Cond.methodLink RX11 267 yX11_placementBy ∈ wsL_law := aw_in_41 _ (List.mem_of_getElem? (i := 2) rfl)
theorem wm_994 : Cond.methodLink RX12 332 yX12_isHow ∈ wsL_law := aw_in_41 _ (List.mem_of_getElem? (i := 10) rfl)
theorem wm_1001 : Cond.fieldLink RX11 286 "LateMover$Placement" "clashes" "[I" ∈ wsL_law := aw_in_41 _ (List.mem_of_getElem? (i := 17) rfl)
theorem wm_1002 : Cond.methodLink RX11 280 yX11_countIn ∈ wsL_law := aw_in_41 _ (List.mem_of_getElem? (i := 18) rfl)
theorem wm_1006 : Cond.methodLink RX11 294 yX3_bitsIn ∈ wsL_law := aw_in_41 _ (List.mem_of_getElem? (i := 22) rfl)
theorem wm_1010 : Cond.methodLink RX3 133 yJ6_bitCount_0f7a4 ∈ wsL_law := aw_in_42 _ (List.mem_of_getElem? (i := 2) rfl)
theorem wm_1014 : Cond.constant RJ6 265 (1431655765) ∈ wsL_law := aw_in_42 _ (List.mem_of_getElem? (i := 6) rfl)
theorem wm_1015 : Cond.constant RJ6 266 (858993459) ∈ wsL_law := aw_in_42 _ (List.mem_of_getElem? (i := 7) rfl)
theorem wm_1016 : Cond.constant RJ6 267 (252645135) ∈ wsL_law := aw_in_42 _ (List.mem_of_getElem? (i := 8) rfl)
theorem wm_1017 : Cond.methodLink RX11 283 yX6_clashingPairs ∈ wsL_law := aw_in_42 _ (List.mem_of_getElem? (i := 9) rfl)
theorem wm_1021 : Cond.methodLink RX6 79 yJ6_bitCount_0f7a4 ∈ wsL_law := aw_in_42 _ (List.mem_of_getElem? (i := 13) rfl)
theorem wm_1022 : Cond.methodLink RX11 289 yJ6_bitCount_0f7a4 ∈ wsL_law := aw_in_42 _ (List.mem_of_getElem? (i := 14) rfl)
theorem wm_1027 : Cond.methodLink RX12 338 yX12_countPlaced ∈ wsL_law := aw_in_42 _ (List.mem_of_getElem? (i := 19) rfl)
theorem wm_1031 : Cond.methodLink RX12 341 yX12_clashes ∈ wsL_law := aw_in_42 _ (List.mem_of_getElem? (i := 23) rfl)
theorem wm_1035 : Cond.methodLink RX12 335 yX12_doClash ∈ wsL_law := aw_in_43 _ (List.mem_of_getElem? (i := 3) rfl)
theorem wm_1043 : Cond.fieldLink RX11 298 "LateMover$Placement" "names" "I" ∈ wsL_law := aw_in_43 _ (List.mem_of_getElem? (i := 11) rfl)
theorem wm_1044 : Cond.fieldLink RX11 301 "LateMover$Placement" "name" "[I" ∈ wsL_law := aw_in_43 _ (List.mem_of_getElem? (i := 12) rfl)
theorem wm_1049 : Cond.methodLink RX12 345 yX12_layNames ∈ wsL_law := aw_in_43 _ (List.mem_of_getElem? (i := 17) rfl)
theorem wm_1057 : Cond.methodLink RX11 304 Lib.Math.max.name ∈ wsL_law := aw_in_44 _ (List.mem_of_getElem? (i := 1) rfl)
theorem wm_1074 : Cond.fieldLink RX11 316 "LateMover$Run" "ending" "I" ∈ wsL_law := aw_in_44 _ (List.mem_of_getElem? (i := 18) rfl)
theorem wm_1075 : Cond.fieldLink RX11 319 "LateMover$Run" "steps" "I" ∈ wsL_law := aw_in_44 _ (List.mem_of_getElem? (i := 19) rfl)
theorem wm_1076 : Cond.fieldLink RX11 322 "LateMover$Run" "worked" "I" ∈ wsL_law := aw_in_44 _ (List.mem_of_getElem? (i := 20) rfl)
theorem wm_1077 : Cond.fieldLink RX11 325 "LateMover$Run" "outs" "I" ∈ wsL_law := aw_in_44 _ (List.mem_of_getElem? (i := 21) rfl)
theorem wm_1078 : Cond.fieldLink RX11 328 "LateMover$Run" "at" "I" ∈ wsL_law := aw_in_44 _ (List.mem_of_getElem? (i := 22) rfl)
theorem wm_1079 : Cond.methodLink RX11 309 yX11_isRunnable ∈ wsL_law := aw_in_44 _ (List.mem_of_getElem? (i := 23) rfl)
theorem wm_1083 : Cond.methodLink RX11 123 yX11_isProgram ∈ wsL_law := aw_in_45 _ (List.mem_of_getElem? (i := 3) rfl)
theorem wm_1087 : Cond.methodLink RX11 312 yX8_follow ∈ wsL_law := aw_in_45 _ (List.mem_of_getElem? (i := 7) rfl)
theorem wm_1091 : Cond.methodLink RX8 24 arraycopyName ∈ wsL_law := aw_in_45 _ (List.mem_of_getElem? (i := 11) rfl)
theorem wm_1092 : Cond.fieldLink RX8 36 "LateMover$Run" "steps" "I" ∈ wsL_law := aw_in_45 _ (List.mem_of_getElem? (i := 12) rfl)
theorem wm_1093 : Cond.fieldLink RX8 40 "LateMover$Run" "worked" "I" ∈ wsL_law := aw_in_45 _ (List.mem_of_getElem? (i := 13) rfl)
theorem wm_1094 : Cond.fieldLink RX8 43 "LateMover$Run" "outs" "I" ∈ wsL_law := aw_in_45 _ (List.mem_of_getElem? (i := 14) rfl)
theorem wm_1095 : Cond.fieldLink RX8 46 "LateMover$Run" "at" "I" ∈ wsL_law := aw_in_45 _ (List.mem_of_getElem? (i := 15) rfl)
theorem wm_1096 : Cond.fieldLink RX8 49 "LateMover$Run" "ending" "I" ∈ wsL_law := aw_in_45 _ (List.mem_of_getElem? (i := 16) rfl)
theorem wm_1097 : Cond.methodLink RX8 30 yJ7_fill_53178 ∈ wsL_law := aw_in_45 _ (List.mem_of_getElem? (i := 17) rfl)
theorem wm_1098 : Cond.methodLink RX8 52 yX3_isNode ∈ wsL_law := aw_in_45 _ (List.mem_of_getElem? (i := 18) rfl)
theorem wm_1099 : Cond.methodLink RX8 58 yX8_step ∈ wsL_law := aw_in_45 _ (List.mem_of_getElem? (i := 19) rfl)
theorem wm_1103 : Cond.methodLink RX8 62 yX8_putIn ∈ wsL_law := aw_in_45 _ (List.mem_of_getElem? (i := 23) rfl)
theorem wm_1107 : Cond.fieldLink RX8 77 "LateMover$Placement" "put" "[I" ∈ wsL_law := aw_in_46 _ (List.mem_of_getElem? (i := 3) rfl)
theorem wm_1108 : Cond.fieldLink RX8 82 "LateMover$Graph" "expressions" "LLateMover$Expressions;" ∈ wsL_law := aw_in_46 _ (List.mem_of_getElem? (i := 4) rfl)
theorem wm_1109 : Cond.fieldLink RX8 86 "LateMover$Expressions" "count" "I" ∈ wsL_law := aw_in_46 _ (List.mem_of_getElem? (i := 5) rfl)
theorem wm_1110 : Cond.fieldLink RX8 99 "LateMover$Run" "value" "I" ∈ wsL_law := aw_in_46 _ (List.mem_of_getElem? (i := 6) rfl)
theorem wm_1111 : Cond.methodLink RX8 95 yX8_compute ∈ wsL_law := aw_in_46 _ (List.mem_of_getElem? (i := 7) rfl)
theorem wm_1115 : Cond.fieldLink RX8 140 "LateMover$Expressions" "left" "[I" ∈ wsL_law := aw_in_46 _ (List.mem_of_getElem? (i := 11) rfl)
theorem wm_1116 : Cond.fieldLink RX8 143 "LateMover$Expressions" "right" "[I" ∈ wsL_law := aw_in_46 _ (List.mem_of_getElem? (i := 12) rfl)
theorem wm_1117 : Cond.fieldLink RX8 146 "LateMover$Expressions" "sign" "[I" ∈ wsL_law := aw_in_46 _ (List.mem_of_getElem? (i := 13) rfl)
theorem wm_1118 : Cond.methodLink RX8 111 yX8_valueOf ∈ wsL_law := aw_in_46 _ (List.mem_of_getElem? (i := 14) rfl)
theorem wm_1122 : Cond.methodLink RX8 153 yX8_divide ∈ wsL_law := aw_in_46 _ (List.mem_of_getElem? (i := 18) rfl)
theorem wm_1126 : Cond.methodLink RX8 66 yX8_doNode ∈ wsL_law := aw_in_46 _ (List.mem_of_getElem? (i := 22) rfl)
theorem wm_1130 : Cond.fieldLink RX8 102 "LateMover$Graph" "kind" "[I" ∈ wsL_law := aw_in_47 _ (List.mem_of_getElem? (i := 2) rfl)
theorem wm_1131 : Cond.fieldLink RX8 105 "LateMover$Graph" "letter" "[I" ∈ wsL_law := aw_in_47 _ (List.mem_of_getElem? (i := 3) rfl)
theorem wm_1132 : Cond.fieldLink RX8 108 "LateMover$Graph" "operand" "[I" ∈ wsL_law := aw_in_47 _ (List.mem_of_getElem? (i := 4) rfl)
theorem wm_1133 : Cond.methodLink RX8 114 yX8_setLetter ∈ wsL_law := aw_in_47 _ (List.mem_of_getElem? (i := 5) rfl)
theorem wm_1137 : Cond.methodLink RX8 118 yX8_assign ∈ wsL_law := aw_in_47 _ (List.mem_of_getElem? (i := 9) rfl)
theorem wm_1141 : Cond.fieldLink RX8 125 "LateMover$Graph" "expression" "[I" ∈ wsL_law := aw_in_47 _ (List.mem_of_getElem? (i := 13) rfl)
theorem wm_1142 : Cond.fieldLink RX8 131 "LateMover$Placement" "replaced" "[I" ∈ wsL_law := aw_in_47 _ (List.mem_of_getElem? (i := 14) rfl)
theorem wm_1143 : Cond.methodLink RX8 128 yX0_isOne ∈ wsL_law := aw_in_47 _ (List.mem_of_getElem? (i := 15) rfl)
theorem wm_1144 : Cond.methodLink RX8 121 yX8_writeOut ∈ wsL_law := aw_in_47 _ (List.mem_of_getElem? (i := 16) rfl)
theorem wm_1148 : Cond.methodLink RX8 69 yX3_edgesFrom ∈ wsL_law := aw_in_47 _ (List.mem_of_getElem? (i := 20) rfl)
theorem wm_1149 : Cond.methodLink RX8 73 yX8_nextNode ∈ wsL_law := aw_in_47 _ (List.mem_of_getElem? (i := 21) rfl)
theorem wm_1153 : Cond.fieldLink RX8 134 "LateMover$Graph" "second" "[I" ∈ wsL_law := aw_in_48 _ (List.mem_of_getElem? (i := 1) rfl)
theorem wm_1154 : Cond.fieldLink RX8 137 "LateMover$Graph" "first" "[I" ∈ wsL_law := aw_in_48 _ (List.mem_of_getElem? (i := 2) rfl)
theorem wm_1159 : Cond.fieldLink RX12 357 "LateMoverModel" "written" "I" ∈ wsL_law := aw_in_48 _ (List.mem_of_getElem? (i := 7) rfl)
theorem wm_1160 : Cond.fieldLink RX12 384 "LateMoverModel" "lastWritten" "I" ∈ wsL_law := aw_in_48 _ (List.mem_of_getElem? (i := 8) rfl)
theorem wm_1161 : Cond.fieldLink RX12 363 "LateMoverModel" "ended" "I" ∈ wsL_law := aw_in_48 _ (List.mem_of_getElem? (i := 9) rfl)
theorem wm_1162 : Cond.fieldLink RX12 360 "LateMoverModel" "gone" "I" ∈ wsL_law := aw_in_48 _ (List.mem_of_getElem? (i := 10) rfl)
theorem wm_1163 : Cond.fieldLink RX12 366 "LateMoverModel" "endNode" "I" ∈ wsL_law := aw_in_48 _ (List.mem_of_getElem? (i := 11) rfl)
theorem wm_1164 : Cond.methodLink RX12 378 yX12_canRun ∈ wsL_law := aw_in_48 _ (List.mem_of_getElem? (i := 12) rfl)
theorem wm_1168 : Cond.methodLink RX12 381 yX12_runNow ∈ wsL_law := aw_in_48 _ (List.mem_of_getElem? (i := 16) rfl)
theorem wm_1172 : Cond.methodLink RX12 369 yX12_putsIn ∈ wsL_law := aw_in_48 _ (List.mem_of_getElem? (i := 20) rfl)
theorem wm_1176 : Cond.fieldLink RX12 351 "LateMoverModel" "result" "I" ∈ wsL_law := aw_in_49 _ (List.mem_of_getElem? (i := 0) rfl)
theorem wm_1177 : Cond.methodLink RX12 354 yX12_works ∈ wsL_law := aw_in_49 _ (List.mem_of_getElem? (i := 1) rfl)
theorem wm_1181 : Cond.methodLink RX12 348 yX12_worthOf ∈ wsL_law := aw_in_49 _ (List.mem_of_getElem? (i := 5) rfl)
theorem wm_1185 : Cond.methodLink RX12 372 yX12_does ∈ wsL_law := aw_in_49 _ (List.mem_of_getElem? (i := 9) rfl)
theorem wm_1189 : Cond.methodLink RX12 375 yX12_goesTo ∈ wsL_law := aw_in_49 _ (List.mem_of_getElem? (i := 13) rfl)
theorem wm_1193 : Cond.methodLink RX12 387 yX12_allWorked ∈ wsL_law := aw_in_49 _ (List.mem_of_getElem? (i := 17) rfl)
theorem wm_1201 : Cond.fieldLink RX11 331 "LateMover$Run" "times" "[I" ∈ wsL_law := aw_in_50 _ (List.mem_of_getElem? (i := 1) rfl)
theorem wm_1210 : Cond.fieldLink RX11 334 "LateMover$Run" "outputs" "[I" ∈ wsL_law := aw_in_50 _ (List.mem_of_getElem? (i := 10) rfl)
theorem wm_1215 : Cond.methodLink RX12 390 yX12_least ∈ wsL_law := aw_in_50 _ (List.mem_of_getElem? (i := 15) rfl)
theorem wm_1223 : Cond.fieldLink RX11 337 "LateMover$Run" "letters" "[I" ∈ wsL_law := aw_in_50 _ (List.mem_of_getElem? (i := 23) rfl)
theorem wm_1232 : Cond.methodLink RX11 340 yX8_endsAndWroteLike ∈ wsL_law := aw_in_51 _ (List.mem_of_getElem? (i := 8) rfl)
theorem wm_1244 : Cond.fieldLink RX11 344 "LateMover$Facts" "live" "[I" ∈ wsL_law := aw_in_51 _ (List.mem_of_getElem? (i := 20) rfl)
theorem wm_1253 : Cond.methodLink RX11 347 yX1_isDead ∈ wsL_law := aw_in_52 _ (List.mem_of_getElem? (i := 5) rfl)
theorem wm_1261 : Cond.methodLink RX12 460 yX12_isDead ∈ wsL_law := aw_in_52 _ (List.mem_of_getElem? (i := 13) rfl)
theorem wm_1269 : Cond.fieldLink RX11 351 "LateMover$Facts" "maybe" "[I" ∈ wsL_law := aw_in_52 _ (List.mem_of_getElem? (i := 21) rfl)
theorem wm_1274 : Cond.methodLink RX12 448 yX12_layMaybe ∈ wsL_law := aw_in_53 _ (List.mem_of_getElem? (i := 2) rfl)
theorem wm_1282 : Cond.methodLink RX11 354 yX4_isOver ∈ wsL_law := aw_in_53 _ (List.mem_of_getElem? (i := 10) rfl)
theorem wm_1291 : Cond.fieldLink RX11 358 "LateMover$Loops" "deep" "[I" ∈ wsL_law := aw_in_53 _ (List.mem_of_getElem? (i := 19) rfl)
theorem wm_1300 : Cond.fieldLink RX11 361 "LateMover$Loops" "headCount" "I" ∈ wsL_law := aw_in_54 _ (List.mem_of_getElem? (i := 4) rfl)
theorem wm_1309 : Cond.constantLong RX11 364 (-1) ∈ wsL_law := aw_in_54 _ (List.mem_of_getElem? (i := 13) rfl)
theorem wm_1310 : Cond.methodLink RX11 366 yX6_computedAt ∈ wsL_law := aw_in_54 _ (List.mem_of_getElem? (i := 14) rfl)
theorem wm_1314 : Cond.fieldLink RX6 84 "LateMover$Graph" "kind" "[I" ∈ wsL_law := aw_in_54 _ (List.mem_of_getElem? (i := 18) rfl)
theorem wm_1315 : Cond.methodLink RX11 370 yX11_powerOfTen ∈ wsL_law := aw_in_54 _ (List.mem_of_getElem? (i := 19) rfl)
theorem wm_1318 : Cond.constantLong RX11 374 (10) ∈ wsL_law := aw_in_54 _ (List.mem_of_getElem? (i := 22) rfl)
theorem wm_1323 : Cond.constantLong RX12 419 (-1) ∈ wsL_law := aw_in_55 _ (List.mem_of_getElem? (i := 3) rfl)
theorem wm_1324 : Cond.constantLong RX12 475 (10) ∈ wsL_law := aw_in_55 _ (List.mem_of_getElem? (i := 4) rfl)
theorem wm_1325 : Cond.methodLink RX12 413 yX12_costs ∈ wsL_law := aw_in_55 _ (List.mem_of_getElem? (i := 5) rfl)
theorem wm_1333 : Cond.methodLink RX11 376 yX5_answer ∈ wsL_law := aw_in_55 _ (List.mem_of_getElem? (i := 13) rfl)
theorem wm_1337 : Cond.fieldLink RX5 36 "LateMover$Graph" "nodes" "I" ∈ wsL_law := aw_in_55 _ (List.mem_of_getElem? (i := 17) rfl)
theorem wm_1338 : Cond.methodLink RX5 45 yX5_takeGraph ∈ wsL_law := aw_in_55 _ (List.mem_of_getElem? (i := 18) rfl)
theorem wm_1342 : Cond.fieldLink RX5 57 "LateMover$Others" "nodes" "I" ∈ wsL_law := aw_in_55 _ (List.mem_of_getElem? (i := 22) rfl)
theorem wm_1343 : Cond.fieldLink RX5 58 "LateMover$Others" "lasts" "I" ∈ wsL_law := aw_in_55 _ (List.mem_of_getElem? (i := 23) rfl)
theorem wm_1344 : Cond.fieldLink RX5 67 "LateMover$Graph" "first" "[I" ∈ wsL_law := aw_in_56 _ (List.mem_of_getElem? (i := 0) rfl)
theorem wm_1345 : Cond.fieldLink RX5 70 "LateMover$Graph" "second" "[I" ∈ wsL_law := aw_in_56 _ (List.mem_of_getElem? (i := 1) rfl)
theorem wm_1346 : Cond.methodLink RX5 61 yJ7_fill_53178 ∈ wsL_law := aw_in_56 _ (List.mem_of_getElem? (i := 2) rfl)
theorem wm_1347 : Cond.methodLink RX5 73 yX5_nodeBit ∈ wsL_law := aw_in_56 _ (List.mem_of_getElem? (i := 3) rfl)
theorem wm_1351 : Cond.methodLink RX5 49 yX5_takeFacts ∈ wsL_law := aw_in_56 _ (List.mem_of_getElem? (i := 7) rfl)
theorem wm_1355 : Cond.fieldLink RX5 77 "LateMover$Facts" "uses" "[I" ∈ wsL_law := aw_in_56 _ (List.mem_of_getElem? (i := 11) rfl)
theorem wm_1356 : Cond.fieldLink RX5 86 "LateMover$Others" "uses" "I" ∈ wsL_law := aw_in_56 _ (List.mem_of_getElem? (i := 12) rfl)
theorem wm_1357 : Cond.fieldLink RX5 88 "LateMover$Facts" "keeps" "[I" ∈ wsL_law := aw_in_56 _ (List.mem_of_getElem? (i := 13) rfl)
theorem wm_1358 : Cond.fieldLink RX5 91 "LateMover$Others" "keeps" "I" ∈ wsL_law := aw_in_56 _ (List.mem_of_getElem? (i := 14) rfl)
theorem wm_1359 : Cond.fieldLink RX5 93 "LateMover$Facts" "needed" "[I" ∈ wsL_law := aw_in_56 _ (List.mem_of_getElem? (i := 15) rfl)
theorem wm_1360 : Cond.fieldLink RX5 96 "LateMover$Others" "needed" "I" ∈ wsL_law := aw_in_56 _ (List.mem_of_getElem? (i := 16) rfl)
theorem wm_1361 : Cond.fieldLink RX5 98 "LateMover$Facts" "early" "[I" ∈ wsL_law := aw_in_56 _ (List.mem_of_getElem? (i := 17) rfl)
theorem wm_1362 : Cond.fieldLink RX5 101 "LateMover$Others" "early" "I" ∈ wsL_law := aw_in_56 _ (List.mem_of_getElem? (i := 18) rfl)
theorem wm_1363 : Cond.methodLink RX5 82 yX5_column ∈ wsL_law := aw_in_56 _ (List.mem_of_getElem? (i := 19) rfl)
theorem wm_1367 : Cond.methodLink RX5 53 yX5_tryAll ∈ wsL_law := aw_in_56 _ (List.mem_of_getElem? (i := 23) rfl)
theorem wm_1371 : Cond.methodLink RX5 103 yX5_isRight ∈ wsL_law := aw_in_57 _ (List.mem_of_getElem? (i := 3) rfl)
theorem wm_1375 : Cond.methodLink RX5 107 yX5_isFew ∈ wsL_law := aw_in_57 _ (List.mem_of_getElem? (i := 7) rfl)
theorem wm_1379 : Cond.methodLink RX5 126 yX5_gain ∈ wsL_law := aw_in_57 _ (List.mem_of_getElem? (i := 11) rfl)
theorem wm_1383 : Cond.methodLink RX5 116 yJ6_bitCount_0f7a4 ∈ wsL_law := aw_in_57 _ (List.mem_of_getElem? (i := 15) rfl)
theorem wm_1384 : Cond.methodLink RX5 129 yX5_carry ∈ wsL_law := aw_in_57 _ (List.mem_of_getElem? (i := 16) rfl)
theorem wm_1388 : Cond.methodLink RX5 133 yX5_endsAhead ∈ wsL_law := aw_in_57 _ (List.mem_of_getElem? (i := 20) rfl)
theorem wm_1392 : Cond.methodLink RX5 110 yX5_lifeOf ∈ wsL_law := aw_in_58 _ (List.mem_of_getElem? (i := 0) rfl)
theorem wm_1396 : Cond.methodLink RX5 113 yX5_lesser ∈ wsL_law := aw_in_58 _ (List.mem_of_getElem? (i := 4) rfl)
theorem wm_1399 : Cond.methodLink RX5 121 Lib.Math.min.name ∈ wsL_law := aw_in_58 _ (List.mem_of_getElem? (i := 7) rfl)
theorem wm_1406 : Cond.methodLink RX12 399 yX12_isRight ∈ wsL_law := aw_in_58 _ (List.mem_of_getElem? (i := 14) rfl)
theorem wm_1410 : Cond.methodLink RX12 393 yX12_has ∈ wsL_law := aw_in_58 _ (List.mem_of_getElem? (i := 18) rfl)
theorem wm_1413 : Cond.methodLink RX12 402 yX12_isFew ∈ wsL_law := aw_in_58 _ (List.mem_of_getElem? (i := 21) rfl)
theorem wm_1417 : Cond.methodLink RX12 396 yX12_overBy ∈ wsL_law := aw_in_59 _ (List.mem_of_getElem? (i := 1) rfl)
theorem wm_1421 : Cond.methodLink RX12 405 yX12_lifeOf ∈ wsL_law := aw_in_59 _ (List.mem_of_getElem? (i := 5) rfl)
theorem wm_1425 : Cond.methodLink RX12 408 yX12_bits ∈ wsL_law := aw_in_59 _ (List.mem_of_getElem? (i := 9) rfl)
theorem wm_1432 : Cond.fieldLink RX11 383 "LateMover$Ways" "found" "J" ∈ wsL_law := aw_in_59 _ (List.mem_of_getElem? (i := 16) rfl)
theorem wm_1433 : Cond.fieldLink RX11 387 "LateMover$Ways" "least" "I" ∈ wsL_law := aw_in_59 _ (List.mem_of_getElem? (i := 17) rfl)
theorem wm_1434 : Cond.fieldLink RX11 390 "LateMover$Ways" "most" "I" ∈ wsL_law := aw_in_59 _ (List.mem_of_getElem? (i := 18) rfl)
theorem wm_1435 : Cond.methodLink RX11 380 yX10_count ∈ wsL_law := aw_in_59 _ (List.mem_of_getElem? (i := 19) rfl)
theorem wm_1439 : Cond.fieldLink RX10 34 "LateMover$Graph" "nodes" "I" ∈ wsL_law := aw_in_59 _ (List.mem_of_getElem? (i := 23) rfl)
theorem wm_1440 : Cond.fieldLink RX10 46 "LateMover$Ways" "found" "J" ∈ wsL_law := aw_in_60 _ (List.mem_of_getElem? (i := 0) rfl)
theorem wm_1441 : Cond.fieldLink RX10 50 "LateMover$Ways" "least" "I" ∈ wsL_law := aw_in_60 _ (List.mem_of_getElem? (i := 1) rfl)
theorem wm_1442 : Cond.fieldLink RX10 53 "LateMover$Ways" "most" "I" ∈ wsL_law := aw_in_60 _ (List.mem_of_getElem? (i := 2) rfl)
theorem wm_1443 : Cond.methodLink RX10 40 yX6_computedAt ∈ wsL_law := aw_in_60 _ (List.mem_of_getElem? (i := 3) rfl)
theorem wm_1444 : Cond.methodLink RX10 56 yX10_endWaysAtLast ∈ wsL_law := aw_in_60 _ (List.mem_of_getElem? (i := 4) rfl)
theorem wm_1448 : Cond.methodLink RX10 67 Lib.Math.min.name ∈ wsL_law := aw_in_60 _ (List.mem_of_getElem? (i := 8) rfl)
theorem wm_1449 : Cond.methodLink RX10 73 Lib.Math.max.name ∈ wsL_law := aw_in_60 _ (List.mem_of_getElem? (i := 9) rfl)
theorem wm_1450 : Cond.constantLong RX10 76 (1000000000000) ∈ wsL_law := aw_in_60 _ (List.mem_of_getElem? (i := 10) rfl)
theorem wm_1451 : Cond.methodLink RX10 78 Lib.MathLoose.min_long.x ∈ wsL_law := aw_in_60 _ (List.mem_of_getElem? (i := 11) rfl)
theorem wm_1454 : Cond.methodLink RX10 63 yX3_edgesFrom ∈ wsL_law := aw_in_60 _ (List.mem_of_getElem? (i := 14) rfl)
theorem wm_1455 : Cond.methodLink RX10 60 yX10_goOnByOneEdge ∈ wsL_law := aw_in_60 _ (List.mem_of_getElem? (i := 15) rfl)
theorem wm_1459 : Cond.methodLink RX10 81 yX3_kthTarget ∈ wsL_law := aw_in_60 _ (List.mem_of_getElem? (i := 19) rfl)
theorem wm_1460 : Cond.methodLink RX10 84 yX10_extend ∈ wsL_law := aw_in_60 _ (List.mem_of_getElem? (i := 20) rfl)
theorem wm_1464 : Cond.methodLink RX10 91 yX3_isNode ∈ wsL_law := aw_in_61 _ (List.mem_of_getElem? (i := 0) rfl)
theorem wm_1465 : Cond.methodLink RX10 88 yX10_swap ∈ wsL_law := aw_in_61 _ (List.mem_of_getElem? (i := 1) rfl)
theorem wm_1473 : Cond.constantLong RX12 411 (1000000000000) ∈ wsL_law := aw_in_61 _ (List.mem_of_getElem? (i := 9) rfl)
theorem wm_1474 : Cond.methodLink RX12 421 yX12_goFurther ∈ wsL_law := aw_in_61 _ (List.mem_of_getElem? (i := 10) rfl)
theorem wm_1478 : Cond.methodLink RX12 416 yX12_goOn ∈ wsL_law := aw_in_61 _ (List.mem_of_getElem? (i := 14) rfl)
theorem wm_1502 : Cond.methodLink RX11 393 yX11_writeName ∈ wsL_law := aw_in_62 _ (List.mem_of_getElem? (i := 14) rfl)
theorem wm_1506 : Cond.methodLink RX11 396 yX9_put ∈ wsL_law := aw_in_62 _ (List.mem_of_getElem? (i := 18) rfl)
theorem wm_1507 : Cond.methodLink RX11 422 yX9_putNumber ∈ wsL_law := aw_in_62 _ (List.mem_of_getElem? (i := 19) rfl)
theorem wm_1511 : Cond.methodLink RX11 398 yX11_writeExpression ∈ wsL_law := aw_in_62 _ (List.mem_of_getElem? (i := 23) rfl)
theorem wm_1515 : Cond.methodLink RX11 413 yX11_writeOperand ∈ wsL_law := aw_in_63 _ (List.mem_of_getElem? (i := 3) rfl)
theorem wm_1519 : Cond.methodLink RX11 401 yX11_writeNode ∈ wsL_law := aw_in_63 _ (List.mem_of_getElem? (i := 7) rfl)
theorem wm_1523 : Cond.fieldLink RX11 410 "LateMover$Graph" "operand" "[I" ∈ wsL_law := aw_in_63 _ (List.mem_of_getElem? (i := 11) rfl)
theorem wm_1524 : Cond.methodLink RX11 407 yX11_writeAssignment ∈ wsL_law := aw_in_63 _ (List.mem_of_getElem? (i := 12) rfl)
theorem wm_1528 : Cond.methodLink RX11 416 yX11_writeEnd ∈ wsL_law := aw_in_63 _ (List.mem_of_getElem? (i := 16) rfl)
theorem wm_1532 : Cond.fieldLink RX11 419 "LateMover$Graph" "to" "[I" ∈ wsL_law := aw_in_63 _ (List.mem_of_getElem? (i := 20) rfl)
theorem wm_1533 : Cond.fieldLink RX11 425 "LateMover$Graph" "orTo" "[I" ∈ wsL_law := aw_in_63 _ (List.mem_of_getElem? (i := 21) rfl)
theorem wm_1538 : Cond.fieldLink RX12 424 "LateMoverModel" "writtenLong" "I" ∈ wsL_law := aw_in_64 _ (List.mem_of_getElem? (i := 2) rfl)
theorem wm_1539 : Cond.methodLink RX12 436 yX12_writeName ∈ wsL_law := aw_in_64 _ (List.mem_of_getElem? (i := 3) rfl)
theorem wm_1543 : Cond.methodLink RX12 427 yX12_lay1 ∈ wsL_law := aw_in_64 _ (List.mem_of_getElem? (i := 7) rfl)
theorem wm_1547 : Cond.methodLink RX12 430 yX12_writeNumber ∈ wsL_law := aw_in_64 _ (List.mem_of_getElem? (i := 11) rfl)
theorem wm_1551 : Cond.methodLink RX12 439 yX12_writeExpression ∈ wsL_law := aw_in_64 _ (List.mem_of_getElem? (i := 15) rfl)
theorem wm_1555 : Cond.methodLink RX12 433 yX12_writeA ∈ wsL_law := aw_in_64 _ (List.mem_of_getElem? (i := 19) rfl)
theorem wm_1559 : Cond.methodLink RX12 442 yX12_writeStatement ∈ wsL_law := aw_in_64 _ (List.mem_of_getElem? (i := 23) rfl)
theorem wm_1563 : Cond.methodLink RX12 445 yX12_writeEnd ∈ wsL_law := aw_in_65 _ (List.mem_of_getElem? (i := 3) rfl)
theorem wm_1571 : Cond.methodLink RX11 405 yX9_at ∈ wsL_law := aw_in_65 _ (List.mem_of_getElem? (i := 11) rfl)
theorem nm_X1_141 : (RX1, 141, yX11_oneIf, RX11) ∈ aw_nest := List.mem_of_getElem? (i := 14) rfl
theorem nm_X3_125 : (RX3, 125, yX11_oneIf, RX11) ∈ aw_nest := List.mem_of_getElem? (i := 13) rfl
theorem nm_X5_41 : (RX5, 41, yX11_bitOf, RX11) ∈ aw_nest := List.mem_of_getElem? (i := 19) rfl
theorem nm_X6_59 : (RX6, 59, yX11_bitOf, RX11) ∈ aw_nest := List.mem_of_getElem? (i := 15) rfl
theorem nm_X6_87 : (RX6, 87, yX11_oneIf, RX11) ∈ aw_nest := List.mem_of_getElem? (i := 18) rfl
theorem nm_X8_91 : (RX8, 91, yX11_bitOf, RX11) ∈ aw_nest := List.mem_of_getElem? (i := 16) rfl
theorem nm_X8_149 : (RX8, 149, yX11_oneIf, RX11) ∈ aw_nest := List.mem_of_getElem? (i := 17) rfl
theorem fd_X0_15 : aw_Fd RX0 15 0 1 (.array .int) true := ⟨RX0, TX0, 4, tyX0, rfl, by decide, inlX0, tyX0_ok, nmX0, wm_85, rfl, rfl, (fun _ => rfl)⟩
theorem fd_X0_18 : aw_Fd RX0 18 0 2 (.array .int) true := ⟨RX0, TX0, 4, tyX0, rfl, by decide, inlX0, tyX0_ok, nmX0, wm_86, rfl, rfl, (fun _ => rfl)⟩
theorem fd_X0_21 : aw_Fd RX0 21 0 3 .int false := ⟨RX0, TX0, 4, tyX0, rfl, by decide, inlX0, tyX0_ok, nmX0, wm_339, rfl, rfl, (fun h => by cases h)⟩
theorem fd_X0_9 : aw_Fd RX0 9 0 0 (.array .int) true := ⟨RX0, TX0, 4, tyX0, rfl, by decide, inlX0, tyX0_ok, nmX0, wm_84, rfl, rfl, (fun _ => rfl)⟩
theorem fd_X10_15 : aw_Fd RX10 15 10 1 (.array .long) false := ⟨RX10, TX10, 10, tyX10, rfl, by decide, inlX10, tyX10_ok, nmX10, wm_156, rfl, rfl, (fun h => by cases h)⟩
theorem fd_X10_19 : aw_Fd RX10 19 10 2 (.array .int) false := ⟨RX10, TX10, 10, tyX10, rfl, by decide, inlX10, tyX10_ok, nmX10, wm_157, rfl, rfl, (fun h => by cases h)⟩
theorem fd_X10_22 : aw_Fd RX10 22 10 3 (.array .int) false := ⟨RX10, TX10, 10, tyX10, rfl, by decide, inlX10, tyX10_ok, nmX10, wm_158, rfl, rfl, (fun h => by cases h)⟩
theorem fd_X10_25 : aw_Fd RX10 25 10 4 (.array .long) false := ⟨RX10, TX10, 10, tyX10, rfl, by decide, inlX10, tyX10_ok, nmX10, wm_159, rfl, rfl, (fun h => by cases h)⟩
theorem fd_X10_28 : aw_Fd RX10 28 10 5 (.array .int) false := ⟨RX10, TX10, 10, tyX10, rfl, by decide, inlX10, tyX10_ok, nmX10, wm_160, rfl, rfl, (fun h => by cases h)⟩
theorem fd_X10_31 : aw_Fd RX10 31 10 6 (.array .int) false := ⟨RX10, TX10, 10, tyX10, rfl, by decide, inlX10, tyX10_ok, nmX10, wm_161, rfl, rfl, (fun h => by cases h)⟩
theorem fd_X10_34 : aw_Fd RX10 34 3 13 .int false := ⟨RX3, TX3, 15, tyX3, rfl, by decide, inlX3, tyX3_ok, nmX3, wm_1439, rfl, rfl, (fun h => by cases h)⟩
theorem fd_X10_46 : aw_Fd RX10 46 10 7 .long false := ⟨RX10, TX10, 10, tyX10, rfl, by decide, inlX10, tyX10_ok, nmX10, wm_1440, rfl, rfl, (fun h => by cases h)⟩
theorem fd_X10_50 : aw_Fd RX10 50 10 8 .int false := ⟨RX10, TX10, 10, tyX10, rfl, by decide, inlX10, tyX10_ok, nmX10, wm_1441, rfl, rfl, (fun h => by cases h)⟩
theorem fd_X10_53 : aw_Fd RX10 53 10 9 .int false := ⟨RX10, TX10, 10, tyX10, rfl, by decide, inlX10, tyX10_ok, nmX10, wm_1442, rfl, rfl, (fun h => by cases h)⟩
theorem fd_X10_9 : aw_Fd RX10 9 10 0 (.array .int) true := ⟨RX10, TX10, 10, tyX10, rfl, by decide, inlX10, tyX10_ok, nmX10, wm_155, rfl, rfl, (fun _ => rfl)⟩
theorem fd_X11_12 : aw_Fd RX11 12 11 0 (.object "LateMover$Text") true := ⟨RX11, TX11, 19, tyX11, rfl, by decide, inlX11, tyX11_ok, nmX11, wm_15, rfl, rfl, (fun _ => rfl)⟩
theorem fd_X11_120 : aw_Fd RX11 120 3 13 .int false := ⟨RX3, TX3, 15, tyX3, rfl, by decide, inlX3, tyX3_ok, nmX3, wm_262, rfl, rfl, (fun h => by cases h)⟩
theorem fd_X11_131 : aw_Fr RX11 131 7 0 (.object "LateMover$Text") := ⟨RX7, TX7, 16, tyX7, rfl, by decide, inlX7, tyX7_ok, nmX7, wm_360, rfl⟩
theorem fd_X11_142 : aw_Fr RX11 142 1 7 (.array .int) := ⟨RX1, TX1, 14, tyX1, rfl, by decide, inlX1, tyX1_ok, nmX1, wm_361, rfl⟩
theorem fd_X11_145 : aw_Fr RX11 145 1 8 (.array .int) := ⟨RX1, TX1, 14, tyX1, rfl, by decide, inlX1, tyX1_ok, nmX1, wm_362, rfl⟩
theorem fd_X11_148 : aw_Fr RX11 148 1 5 (.array .int) := ⟨RX1, TX1, 14, tyX1, rfl, by decide, inlX1, tyX1_ok, nmX1, wm_363, rfl⟩
theorem fd_X11_151 : aw_Fr RX11 151 1 1 (.array .int) := ⟨RX1, TX1, 14, tyX1, rfl, by decide, inlX1, tyX1_ok, nmX1, wm_364, rfl⟩
theorem fd_X11_158 : aw_Fr RX11 158 1 0 (.object "LateMover$Flow") := ⟨RX1, TX1, 14, tyX1, rfl, by decide, inlX1, tyX1_ok, nmX1, wm_365, rfl⟩
theorem fd_X11_16 : aw_Fd RX11 16 11 1 (.object "LateMover$Text") true := ⟨RX11, TX11, 19, tyX11, rfl, by decide, inlX11, tyX11_ok, nmX11, wm_16, rfl, rfl, (fun _ => rfl)⟩
theorem fd_X11_168 : aw_Fd RX11 168 11 18 .boolean false := ⟨RX11, TX11, 19, tyX11, rfl, by decide, inlX11, tyX11_ok, nmX11, wm_366, rfl, rfl, (fun h => by cases h)⟩
theorem fd_X11_172 : aw_Fd RX11 172 3 14 .int false := ⟨RX3, TX3, 15, tyX3, rfl, by decide, inlX3, tyX3_ok, nmX3, wm_882, rfl, rfl, (fun h => by cases h)⟩
theorem fd_X11_175 : aw_Fr RX11 175 3 0 (.object "LateMover$Expressions") := ⟨RX3, TX3, 15, tyX3, rfl, by decide, inlX3, tyX3_ok, nmX3, wm_883, rfl⟩
theorem fd_X11_179 : aw_Fd RX11 179 0 3 .int false := ⟨RX0, TX0, 4, tyX0, rfl, by decide, inlX0, tyX0_ok, nmX0, wm_884, rfl, rfl, (fun h => by cases h)⟩
theorem fd_X11_19 : aw_Fd RX11 19 11 2 (.object "LateMover$Text") true := ⟨RX11, TX11, 19, tyX11, rfl, by decide, inlX11, tyX11_ok, nmX11, wm_17, rfl, rfl, (fun _ => rfl)⟩
theorem fd_X11_191 : aw_Fd RX11 191 1 12 .boolean false := ⟨RX1, TX1, 14, tyX1, rfl, by decide, inlX1, tyX1_ok, nmX1, wm_885, rfl, rfl, (fun h => by cases h)⟩
theorem fd_X11_202 : aw_Fr RX11 202 3 1 (.array .int) := ⟨RX3, TX3, 15, tyX3, rfl, by decide, inlX3, tyX3_ok, nmX3, wm_911, rfl⟩
theorem fd_X11_205 : aw_Fr RX11 205 3 2 (.array .int) := ⟨RX3, TX3, 15, tyX3, rfl, by decide, inlX3, tyX3_ok, nmX3, wm_912, rfl⟩
theorem fd_X11_208 : aw_Fr RX11 208 3 5 (.array .int) := ⟨RX3, TX3, 15, tyX3, rfl, by decide, inlX3, tyX3_ok, nmX3, wm_913, rfl⟩
theorem fd_X11_211 : aw_Fr RX11 211 3 3 (.array .int) := ⟨RX3, TX3, 15, tyX3, rfl, by decide, inlX3, tyX3_ok, nmX3, wm_914, rfl⟩
theorem fd_X11_22 : aw_Fd RX11 22 11 3 (.array (.object "LateMover$Text")) true := ⟨RX11, TX11, 19, tyX11, rfl, by decide, inlX11, tyX11_ok, nmX11, wm_18, rfl, rfl, (fun _ => rfl)⟩
theorem fd_X11_220 : aw_Fr RX11 220 3 8 (.array .int) := ⟨RX3, TX3, 15, tyX3, rfl, by decide, inlX3, tyX3_ok, nmX3, wm_915, rfl⟩
theorem fd_X11_223 : aw_Fr RX11 223 3 9 (.array .int) := ⟨RX3, TX3, 15, tyX3, rfl, by decide, inlX3, tyX3_ok, nmX3, wm_916, rfl⟩
theorem fd_X11_229 : aw_Fr RX11 229 0 0 (.array .int) := ⟨RX0, TX0, 4, tyX0, rfl, by decide, inlX0, tyX0_ok, nmX0, wm_936, rfl⟩
theorem fd_X11_232 : aw_Fr RX11 232 0 1 (.array .int) := ⟨RX0, TX0, 4, tyX0, rfl, by decide, inlX0, tyX0_ok, nmX0, wm_937, rfl⟩
theorem fd_X11_235 : aw_Fr RX11 235 0 2 (.array .int) := ⟨RX0, TX0, 4, tyX0, rfl, by decide, inlX0, tyX0_ok, nmX0, wm_938, rfl⟩
theorem fd_X11_245 : aw_Fr RX11 245 1 2 (.array .int) := ⟨RX1, TX1, 14, tyX1, rfl, by decide, inlX1, tyX1_ok, nmX1, wm_939, rfl⟩
theorem fd_X11_255 : aw_Fr RX11 255 1 3 (.array .int) := ⟨RX1, TX1, 14, tyX1, rfl, by decide, inlX1, tyX1_ok, nmX1, wm_963, rfl⟩
theorem fd_X11_258 : aw_Fr RX11 258 1 4 (.array .int) := ⟨RX1, TX1, 14, tyX1, rfl, by decide, inlX1, tyX1_ok, nmX1, wm_964, rfl⟩
theorem fd_X11_261 : aw_Fr RX11 261 1 6 (.array .int) := ⟨RX1, TX1, 14, tyX1, rfl, by decide, inlX1, tyX1_ok, nmX1, wm_965, rfl⟩
theorem fd_X11_271 : aw_Fr RX11 271 6 0 (.array .int) := ⟨RX6, TX6, 6, tyX6, rfl, by decide, inlX6, tyX6_ok, nmX6, wm_979, rfl⟩
theorem fd_X11_274 : aw_Fr RX11 274 6 1 (.array .int) := ⟨RX6, TX6, 6, tyX6, rfl, by decide, inlX6, tyX6_ok, nmX6, wm_980, rfl⟩
theorem fd_X11_277 : aw_Fr RX11 277 6 2 (.array .int) := ⟨RX6, TX6, 6, tyX6, rfl, by decide, inlX6, tyX6_ok, nmX6, wm_981, rfl⟩
theorem fd_X11_286 : aw_Fr RX11 286 6 3 (.array .int) := ⟨RX6, TX6, 6, tyX6, rfl, by decide, inlX6, tyX6_ok, nmX6, wm_1001, rfl⟩
theorem fd_X11_29 : aw_Fd RX11 29 11 4 (.object "LateMover$Reader") true := ⟨RX11, TX11, 19, tyX11, rfl, by decide, inlX11, tyX11_ok, nmX11, wm_22, rfl, rfl, (fun _ => rfl)⟩
theorem fd_X11_298 : aw_Fd RX11 298 6 5 .int false := ⟨RX6, TX6, 6, tyX6, rfl, by decide, inlX6, tyX6_ok, nmX6, wm_1043, rfl, rfl, (fun h => by cases h)⟩
theorem fd_X11_301 : aw_Fr RX11 301 6 4 (.array .int) := ⟨RX6, TX6, 6, tyX6, rfl, by decide, inlX6, tyX6_ok, nmX6, wm_1044, rfl⟩
theorem fd_X11_316 : aw_Fd RX11 316 8 4 .int false := ⟨RX8, TX8, 10, tyX8, rfl, by decide, inlX8, tyX8_ok, nmX8, wm_1074, rfl, rfl, (fun h => by cases h)⟩
theorem fd_X11_319 : aw_Fd RX11 319 8 5 .int false := ⟨RX8, TX8, 10, tyX8, rfl, by decide, inlX8, tyX8_ok, nmX8, wm_1075, rfl, rfl, (fun h => by cases h)⟩
theorem fd_X11_322 : aw_Fd RX11 322 8 6 .int false := ⟨RX8, TX8, 10, tyX8, rfl, by decide, inlX8, tyX8_ok, nmX8, wm_1076, rfl, rfl, (fun h => by cases h)⟩
theorem fd_X11_325 : aw_Fd RX11 325 8 7 .int false := ⟨RX8, TX8, 10, tyX8, rfl, by decide, inlX8, tyX8_ok, nmX8, wm_1077, rfl, rfl, (fun h => by cases h)⟩
theorem fd_X11_328 : aw_Fd RX11 328 8 8 .int false := ⟨RX8, TX8, 10, tyX8, rfl, by decide, inlX8, tyX8_ok, nmX8, wm_1078, rfl, rfl, (fun h => by cases h)⟩
theorem fd_X11_331 : aw_Fr RX11 331 8 2 (.array .int) := ⟨RX8, TX8, 10, tyX8, rfl, by decide, inlX8, tyX8_ok, nmX8, wm_1201, rfl⟩
theorem fd_X11_334 : aw_Fr RX11 334 8 1 (.array .int) := ⟨RX8, TX8, 10, tyX8, rfl, by decide, inlX8, tyX8_ok, nmX8, wm_1210, rfl⟩
theorem fd_X11_337 : aw_Fr RX11 337 8 0 (.array .int) := ⟨RX8, TX8, 10, tyX8, rfl, by decide, inlX8, tyX8_ok, nmX8, wm_1223, rfl⟩
theorem fd_X11_344 : aw_Fr RX11 344 1 10 (.array .int) := ⟨RX1, TX1, 14, tyX1, rfl, by decide, inlX1, tyX1_ok, nmX1, wm_1244, rfl⟩
theorem fd_X11_351 : aw_Fr RX11 351 1 9 (.array .int) := ⟨RX1, TX1, 14, tyX1, rfl, by decide, inlX1, tyX1_ok, nmX1, wm_1269, rfl⟩
theorem fd_X11_358 : aw_Fr RX11 358 4 3 (.array .int) := ⟨RX4, TX4, 5, tyX4, rfl, by decide, inlX4, tyX4_ok, nmX4, wm_1291, rfl⟩
theorem fd_X11_36 : aw_Fd RX11 36 11 5 (.object "LateMover$Graph") true := ⟨RX11, TX11, 19, tyX11, rfl, by decide, inlX11, tyX11_ok, nmX11, wm_26, rfl, rfl, (fun _ => rfl)⟩
theorem fd_X11_361 : aw_Fd RX11 361 4 4 .int false := ⟨RX4, TX4, 5, tyX4, rfl, by decide, inlX4, tyX4_ok, nmX4, wm_1300, rfl, rfl, (fun h => by cases h)⟩
theorem fd_X11_383 : aw_Fd RX11 383 10 7 .long false := ⟨RX10, TX10, 10, tyX10, rfl, by decide, inlX10, tyX10_ok, nmX10, wm_1432, rfl, rfl, (fun h => by cases h)⟩
theorem fd_X11_387 : aw_Fd RX11 387 10 8 .int false := ⟨RX10, TX10, 10, tyX10, rfl, by decide, inlX10, tyX10_ok, nmX10, wm_1433, rfl, rfl, (fun h => by cases h)⟩
theorem fd_X11_390 : aw_Fd RX11 390 10 9 .int false := ⟨RX10, TX10, 10, tyX10, rfl, by decide, inlX10, tyX10_ok, nmX10, wm_1434, rfl, rfl, (fun h => by cases h)⟩
theorem fd_X11_410 : aw_Fr RX11 410 3 4 (.array .int) := ⟨RX3, TX3, 15, tyX3, rfl, by decide, inlX3, tyX3_ok, nmX3, wm_1523, rfl⟩
theorem fd_X11_419 : aw_Fr RX11 419 3 6 (.array .int) := ⟨RX3, TX3, 15, tyX3, rfl, by decide, inlX3, tyX3_ok, nmX3, wm_1532, rfl⟩
theorem fd_X11_425 : aw_Fr RX11 425 3 7 (.array .int) := ⟨RX3, TX3, 15, tyX3, rfl, by decide, inlX3, tyX3_ok, nmX3, wm_1533, rfl⟩
theorem fd_X11_43 : aw_Fd RX11 43 11 6 (.object "LateMover$Facts") true := ⟨RX11, TX11, 19, tyX11, rfl, by decide, inlX11, tyX11_ok, nmX11, wm_30, rfl, rfl, (fun _ => rfl)⟩
theorem fd_X11_50 : aw_Fd RX11 50 11 7 (.object "LateMover$Loops") true := ⟨RX11, TX11, 19, tyX11, rfl, by decide, inlX11, tyX11_ok, nmX11, wm_34, rfl, rfl, (fun _ => rfl)⟩
theorem fd_X11_57 : aw_Fd RX11 57 11 8 (.object "LateMover$Placement") true := ⟨RX11, TX11, 19, tyX11, rfl, by decide, inlX11, tyX11_ok, nmX11, wm_38, rfl, rfl, (fun _ => rfl)⟩
theorem fd_X11_61 : aw_Fd RX11 61 11 9 (.object "LateMover$Placement") true := ⟨RX11, TX11, 19, tyX11, rfl, by decide, inlX11, tyX11_ok, nmX11, wm_39, rfl, rfl, (fun _ => rfl)⟩
theorem fd_X11_64 : aw_Fd RX11 64 11 10 (.object "LateMover$Placement") true := ⟨RX11, TX11, 19, tyX11, rfl, by decide, inlX11, tyX11_ok, nmX11, wm_40, rfl, rfl, (fun _ => rfl)⟩
theorem fd_X11_67 : aw_Fd RX11 67 11 11 (.array .int) true := ⟨RX11, TX11, 19, tyX11, rfl, by decide, inlX11, tyX11_ok, nmX11, wm_42, rfl, rfl, (fun _ => rfl)⟩
theorem fd_X11_74 : aw_Fd RX11 74 11 12 (.object "LateMover$Run") true := ⟨RX11, TX11, 19, tyX11, rfl, by decide, inlX11, tyX11_ok, nmX11, wm_46, rfl, rfl, (fun _ => rfl)⟩
theorem fd_X11_78 : aw_Fd RX11 78 11 13 (.object "LateMover$Run") true := ⟨RX11, TX11, 19, tyX11, rfl, by decide, inlX11, tyX11_ok, nmX11, wm_47, rfl, rfl, (fun _ => rfl)⟩
theorem fd_X11_81 : aw_Fd RX11 81 11 14 (.object "LateMover$Run") true := ⟨RX11, TX11, 19, tyX11, rfl, by decide, inlX11, tyX11_ok, nmX11, wm_48, rfl, rfl, (fun _ => rfl)⟩
theorem fd_X11_87 : aw_Fd RX11 87 11 15 (.object "LateMover$Ways") true := ⟨RX11, TX11, 19, tyX11, rfl, by decide, inlX11, tyX11_ok, nmX11, wm_52, rfl, rfl, (fun _ => rfl)⟩
theorem fd_X11_94 : aw_Fd RX11 94 11 16 (.object "LateMover$Others") true := ⟨RX11, TX11, 19, tyX11, rfl, by decide, inlX11, tyX11_ok, nmX11, wm_56, rfl, rfl, (fun _ => rfl)⟩
theorem fd_X11_98 : aw_Fd RX11 98 11 17 .int false := ⟨RX11, TX11, 19, tyX11, rfl, by decide, inlX11, tyX11_ok, nmX11, wm_57, rfl, rfl, (fun h => by cases h)⟩
theorem fd_X12_101 : aw_Fd RX12 101 12 42 (.array .int) true := ⟨RX12, TX12, 55, tyX12, rfl, by decide, inlX12, tyX12_ok, nmX12, wm_206, rfl, rfl, (fun _ => rfl)⟩
theorem fd_X12_104 : aw_Fd RX12 104 12 43 (.array .int) true := ⟨RX12, TX12, 55, tyX12, rfl, by decide, inlX12, tyX12_ok, nmX12, wm_207, rfl, rfl, (fun _ => rfl)⟩
theorem fd_X12_107 : aw_Fd RX12 107 12 44 (.array .int) true := ⟨RX12, TX12, 55, tyX12, rfl, by decide, inlX12, tyX12_ok, nmX12, wm_208, rfl, rfl, (fun _ => rfl)⟩
theorem fd_X12_110 : aw_Fd RX12 110 12 45 (.array .int) true := ⟨RX12, TX12, 55, tyX12, rfl, by decide, inlX12, tyX12_ok, nmX12, wm_209, rfl, rfl, (fun _ => rfl)⟩
theorem fd_X12_113 : aw_Fd RX12 113 12 46 (.array .boolean) true := ⟨RX12, TX12, 55, tyX12, rfl, by decide, inlX12, tyX12_ok, nmX12, wm_210, rfl, rfl, (fun _ => rfl)⟩
theorem fd_X12_116 : aw_Fd RX12 116 12 47 (.array .byte) true := ⟨RX12, TX12, 55, tyX12, rfl, by decide, inlX12, tyX12_ok, nmX12, wm_211, rfl, rfl, (fun _ => rfl)⟩
theorem fd_X12_119 : aw_Fd RX12 119 12 49 (.array .boolean) true := ⟨RX12, TX12, 55, tyX12, rfl, by decide, inlX12, tyX12_ok, nmX12, wm_212, rfl, rfl, (fun _ => rfl)⟩
theorem fd_X12_122 : aw_Fd RX12 122 12 50 (.array .int) true := ⟨RX12, TX12, 55, tyX12, rfl, by decide, inlX12, tyX12_ok, nmX12, wm_213, rfl, rfl, (fun _ => rfl)⟩
theorem fd_X12_125 : aw_Fd RX12 125 12 51 (.array .boolean) true := ⟨RX12, TX12, 55, tyX12, rfl, by decide, inlX12, tyX12_ok, nmX12, wm_214, rfl, rfl, (fun _ => rfl)⟩
theorem fd_X12_128 : aw_Fd RX12 128 12 52 (.array .boolean) true := ⟨RX12, TX12, 55, tyX12, rfl, by decide, inlX12, tyX12_ok, nmX12, wm_215, rfl, rfl, (fun _ => rfl)⟩
theorem fd_X12_13 : aw_Fd RX12 13 12 1 (.array .byte) true := ⟨RX12, TX12, 55, tyX12, rfl, by decide, inlX12, tyX12_ok, nmX12, wm_177, rfl, rfl, (fun _ => rfl)⟩
theorem fd_X12_131 : aw_Fd RX12 131 12 53 (.array .int) true := ⟨RX12, TX12, 55, tyX12, rfl, by decide, inlX12, tyX12_ok, nmX12, wm_216, rfl, rfl, (fun _ => rfl)⟩
theorem fd_X12_134 : aw_Fd RX12 134 12 2 .int false := ⟨RX12, TX12, 55, tyX12, rfl, by decide, inlX12, tyX12_ok, nmX12, wm_238, rfl, rfl, (fun h => by cases h)⟩
theorem fd_X12_145 : aw_Fd RX12 145 12 3 .int false := ⟨RX12, TX12, 55, tyX12, rfl, by decide, inlX12, tyX12_ok, nmX12, wm_658, rfl, rfl, (fun h => by cases h)⟩
theorem fd_X12_159 : aw_Fd RX12 159 12 5 .int false := ⟨RX12, TX12, 55, tyX12, rfl, by decide, inlX12, tyX12_ok, nmX12, wm_686, rfl, rfl, (fun h => by cases h)⟩
theorem fd_X12_17 : aw_Fd RX12 17 12 4 .int false := ⟨RX12, TX12, 55, tyX12, rfl, by decide, inlX12, tyX12_ok, nmX12, wm_178, rfl, rfl, (fun h => by cases h)⟩
theorem fd_X12_21 : aw_Fd RX12 21 12 6 (.array .int) true := ⟨RX12, TX12, 55, tyX12, rfl, by decide, inlX12, tyX12_ok, nmX12, wm_179, rfl, rfl, (fun _ => rfl)⟩
theorem fd_X12_215 : aw_Fd RX12 215 12 14 .int false := ⟨RX12, TX12, 55, tyX12, rfl, by decide, inlX12, tyX12_ok, nmX12, wm_653, rfl, rfl, (fun h => by cases h)⟩
theorem fd_X12_231 : aw_Fd RX12 231 12 15 .boolean false := ⟨RX12, TX12, 55, tyX12, rfl, by decide, inlX12, tyX12_ok, nmX12, wm_729, rfl, rfl, (fun h => by cases h)⟩
theorem fd_X12_235 : aw_Fd RX12 235 12 34 .boolean false := ⟨RX12, TX12, 55, tyX12, rfl, by decide, inlX12, tyX12_ok, nmX12, wm_730, rfl, rfl, (fun h => by cases h)⟩
theorem fd_X12_24 : aw_Fd RX12 24 12 7 (.array .int) true := ⟨RX12, TX12, 55, tyX12, rfl, by decide, inlX12, tyX12_ok, nmX12, wm_180, rfl, rfl, (fun _ => rfl)⟩
theorem fd_X12_253 : aw_Fd RX12 253 12 16 .boolean false := ⟨RX12, TX12, 55, tyX12, rfl, by decide, inlX12, tyX12_ok, nmX12, wm_731, rfl, rfl, (fun h => by cases h)⟩
theorem fd_X12_27 : aw_Fd RX12 27 12 8 (.array .int) true := ⟨RX12, TX12, 55, tyX12, rfl, by decide, inlX12, tyX12_ok, nmX12, wm_181, rfl, rfl, (fun _ => rfl)⟩
theorem fd_X12_30 : aw_Fd RX12 30 12 9 (.array .int) true := ⟨RX12, TX12, 55, tyX12, rfl, by decide, inlX12, tyX12_ok, nmX12, wm_182, rfl, rfl, (fun _ => rfl)⟩
theorem fd_X12_33 : aw_Fd RX12 33 12 10 (.array .int) true := ⟨RX12, TX12, 55, tyX12, rfl, by decide, inlX12, tyX12_ok, nmX12, wm_183, rfl, rfl, (fun _ => rfl)⟩
theorem fd_X12_351 : aw_Fd RX12 351 12 35 .int false := ⟨RX12, TX12, 55, tyX12, rfl, by decide, inlX12, tyX12_ok, nmX12, wm_1176, rfl, rfl, (fun h => by cases h)⟩
theorem fd_X12_357 : aw_Fd RX12 357 12 26 .int false := ⟨RX12, TX12, 55, tyX12, rfl, by decide, inlX12, tyX12_ok, nmX12, wm_1159, rfl, rfl, (fun h => by cases h)⟩
theorem fd_X12_36 : aw_Fd RX12 36 12 11 (.array .int) true := ⟨RX12, TX12, 55, tyX12, rfl, by decide, inlX12, tyX12_ok, nmX12, wm_184, rfl, rfl, (fun _ => rfl)⟩
theorem fd_X12_360 : aw_Fd RX12 360 12 27 .int false := ⟨RX12, TX12, 55, tyX12, rfl, by decide, inlX12, tyX12_ok, nmX12, wm_1162, rfl, rfl, (fun h => by cases h)⟩
theorem fd_X12_363 : aw_Fd RX12 363 12 29 .int false := ⟨RX12, TX12, 55, tyX12, rfl, by decide, inlX12, tyX12_ok, nmX12, wm_1161, rfl, rfl, (fun h => by cases h)⟩
theorem fd_X12_366 : aw_Fd RX12 366 12 28 .int false := ⟨RX12, TX12, 55, tyX12, rfl, by decide, inlX12, tyX12_ok, nmX12, wm_1163, rfl, rfl, (fun h => by cases h)⟩
theorem fd_X12_384 : aw_Fd RX12 384 12 33 .int false := ⟨RX12, TX12, 55, tyX12, rfl, by decide, inlX12, tyX12_ok, nmX12, wm_1160, rfl, rfl, (fun h => by cases h)⟩
theorem fd_X12_39 : aw_Fd RX12 39 12 12 (.array .boolean) true := ⟨RX12, TX12, 55, tyX12, rfl, by decide, inlX12, tyX12_ok, nmX12, wm_186, rfl, rfl, (fun _ => rfl)⟩
theorem fd_X12_424 : aw_Fd RX12 424 12 48 .int false := ⟨RX12, TX12, 55, tyX12, rfl, by decide, inlX12, tyX12_ok, nmX12, wm_1538, rfl, rfl, (fun h => by cases h)⟩
theorem fd_X12_43 : aw_Fd RX12 43 12 13 (.array .int) true := ⟨RX12, TX12, 55, tyX12, rfl, by decide, inlX12, tyX12_ok, nmX12, wm_187, rfl, rfl, (fun _ => rfl)⟩
theorem fd_X12_46 : aw_Fd RX12 46 12 17 (.array .boolean) true := ⟨RX12, TX12, 55, tyX12, rfl, by decide, inlX12, tyX12_ok, nmX12, wm_188, rfl, rfl, (fun _ => rfl)⟩
theorem fd_X12_466 : aw_Fd RX12 466 12 54 .int false := ⟨RX12, TX12, 55, tyX12, rfl, by decide, inlX12, tyX12_ok, nmX12, wm_857, rfl, rfl, (fun h => by cases h)⟩
theorem fd_X12_49 : aw_Fd RX12 49 12 18 (.array .boolean) true := ⟨RX12, TX12, 55, tyX12, rfl, by decide, inlX12, tyX12_ok, nmX12, wm_189, rfl, rfl, (fun _ => rfl)⟩
theorem fd_X12_52 : aw_Fd RX12 52 12 19 (.array .boolean) true := ⟨RX12, TX12, 55, tyX12, rfl, by decide, inlX12, tyX12_ok, nmX12, wm_190, rfl, rfl, (fun _ => rfl)⟩
theorem fd_X12_55 : aw_Fd RX12 55 12 20 (.array .int) true := ⟨RX12, TX12, 55, tyX12, rfl, by decide, inlX12, tyX12_ok, nmX12, wm_191, rfl, rfl, (fun _ => rfl)⟩
theorem fd_X12_58 : aw_Fd RX12 58 12 21 (.array .int) true := ⟨RX12, TX12, 55, tyX12, rfl, by decide, inlX12, tyX12_ok, nmX12, wm_192, rfl, rfl, (fun _ => rfl)⟩
theorem fd_X12_61 : aw_Fd RX12 61 12 22 (.array .int) true := ⟨RX12, TX12, 55, tyX12, rfl, by decide, inlX12, tyX12_ok, nmX12, wm_193, rfl, rfl, (fun _ => rfl)⟩
theorem fd_X12_64 : aw_Fd RX12 64 12 23 (.array .int) true := ⟨RX12, TX12, 55, tyX12, rfl, by decide, inlX12, tyX12_ok, nmX12, wm_194, rfl, rfl, (fun _ => rfl)⟩
theorem fd_X12_67 : aw_Fd RX12 67 12 24 (.array .int) true := ⟨RX12, TX12, 55, tyX12, rfl, by decide, inlX12, tyX12_ok, nmX12, wm_195, rfl, rfl, (fun _ => rfl)⟩
theorem fd_X12_7 : aw_Fd RX12 7 12 0 (.array .int) true := ⟨RX12, TX12, 55, tyX12, rfl, by decide, inlX12, tyX12_ok, nmX12, wm_176, rfl, rfl, (fun _ => rfl)⟩
theorem fd_X12_70 : aw_Fd RX12 70 12 25 (.array .int) true := ⟨RX12, TX12, 55, tyX12, rfl, by decide, inlX12, tyX12_ok, nmX12, wm_196, rfl, rfl, (fun _ => rfl)⟩
theorem fd_X12_73 : aw_Fd RX12 73 12 30 (.array .int) true := ⟨RX12, TX12, 55, tyX12, rfl, by decide, inlX12, tyX12_ok, nmX12, wm_197, rfl, rfl, (fun _ => rfl)⟩
theorem fd_X12_76 : aw_Fd RX12 76 12 31 (.array .int) true := ⟨RX12, TX12, 55, tyX12, rfl, by decide, inlX12, tyX12_ok, nmX12, wm_198, rfl, rfl, (fun _ => rfl)⟩
theorem fd_X12_79 : aw_Fd RX12 79 12 32 (.array .int) true := ⟨RX12, TX12, 55, tyX12, rfl, by decide, inlX12, tyX12_ok, nmX12, wm_199, rfl, rfl, (fun _ => rfl)⟩
theorem fd_X12_82 : aw_Fd RX12 82 12 36 (.array .int) true := ⟨RX12, TX12, 55, tyX12, rfl, by decide, inlX12, tyX12_ok, nmX12, wm_200, rfl, rfl, (fun _ => rfl)⟩
theorem fd_X12_85 : aw_Fd RX12 85 12 37 (.array .boolean) true := ⟨RX12, TX12, 55, tyX12, rfl, by decide, inlX12, tyX12_ok, nmX12, wm_201, rfl, rfl, (fun _ => rfl)⟩
theorem fd_X12_88 : aw_Fd RX12 88 12 38 (.array .boolean) true := ⟨RX12, TX12, 55, tyX12, rfl, by decide, inlX12, tyX12_ok, nmX12, wm_202, rfl, rfl, (fun _ => rfl)⟩
theorem fd_X12_91 : aw_Fd RX12 91 12 39 (.array .int) true := ⟨RX12, TX12, 55, tyX12, rfl, by decide, inlX12, tyX12_ok, nmX12, wm_203, rfl, rfl, (fun _ => rfl)⟩
theorem fd_X12_94 : aw_Fd RX12 94 12 40 (.array .long) true := ⟨RX12, TX12, 55, tyX12, rfl, by decide, inlX12, tyX12_ok, nmX12, wm_204, rfl, rfl, (fun _ => rfl)⟩
theorem fd_X12_98 : aw_Fd RX12 98 12 41 (.array .long) true := ⟨RX12, TX12, 55, tyX12, rfl, by decide, inlX12, tyX12_ok, nmX12, wm_205, rfl, rfl, (fun _ => rfl)⟩
theorem fd_X1_105 : aw_Fr RX1 105 3 5 (.array .int) := ⟨RX3, TX3, 15, tyX3, rfl, by decide, inlX3, tyX3_ok, nmX3, wm_456, rfl⟩
theorem fd_X1_12 : aw_Fd RX1 12 1 0 (.object "LateMover$Flow") true := ⟨RX1, TX1, 14, tyX1, rfl, by decide, inlX1, tyX1_ok, nmX1, wm_110, rfl, rfl, (fun _ => rfl)⟩
theorem fd_X1_129 : aw_Fr RX1 129 3 1 (.array .int) := ⟨RX3, TX3, 15, tyX3, rfl, by decide, inlX3, tyX3_ok, nmX3, wm_467, rfl⟩
theorem fd_X1_132 : aw_Fr RX1 132 3 3 (.array .int) := ⟨RX3, TX3, 15, tyX3, rfl, by decide, inlX3, tyX3_ok, nmX3, wm_468, rfl⟩
theorem fd_X1_135 : aw_Fr RX1 135 3 4 (.array .int) := ⟨RX3, TX3, 15, tyX3, rfl, by decide, inlX3, tyX3_ok, nmX3, wm_538, rfl⟩
theorem fd_X1_157 : aw_Fd RX1 157 1 12 .boolean false := ⟨RX1, TX1, 14, tyX1, rfl, by decide, inlX1, tyX1_ok, nmX1, wm_489, rfl, rfl, (fun h => by cases h)⟩
theorem fd_X1_18 : aw_Fd RX1 18 1 1 (.array .int) true := ⟨RX1, TX1, 14, tyX1, rfl, by decide, inlX1, tyX1_ok, nmX1, wm_111, rfl, rfl, (fun _ => rfl)⟩
theorem fd_X1_22 : aw_Fd RX1 22 1 2 (.array .int) true := ⟨RX1, TX1, 14, tyX1, rfl, by decide, inlX1, tyX1_ok, nmX1, wm_112, rfl, rfl, (fun _ => rfl)⟩
theorem fd_X1_25 : aw_Fd RX1 25 1 3 (.array .int) true := ⟨RX1, TX1, 14, tyX1, rfl, by decide, inlX1, tyX1_ok, nmX1, wm_113, rfl, rfl, (fun _ => rfl)⟩
theorem fd_X1_28 : aw_Fd RX1 28 1 4 (.array .int) true := ⟨RX1, TX1, 14, tyX1, rfl, by decide, inlX1, tyX1_ok, nmX1, wm_114, rfl, rfl, (fun _ => rfl)⟩
theorem fd_X1_31 : aw_Fd RX1 31 1 5 (.array .int) true := ⟨RX1, TX1, 14, tyX1, rfl, by decide, inlX1, tyX1_ok, nmX1, wm_115, rfl, rfl, (fun _ => rfl)⟩
theorem fd_X1_34 : aw_Fd RX1 34 1 6 (.array .int) true := ⟨RX1, TX1, 14, tyX1, rfl, by decide, inlX1, tyX1_ok, nmX1, wm_116, rfl, rfl, (fun _ => rfl)⟩
theorem fd_X1_37 : aw_Fd RX1 37 1 7 (.array .int) true := ⟨RX1, TX1, 14, tyX1, rfl, by decide, inlX1, tyX1_ok, nmX1, wm_117, rfl, rfl, (fun _ => rfl)⟩
theorem fd_X1_40 : aw_Fd RX1 40 1 8 (.array .int) true := ⟨RX1, TX1, 14, tyX1, rfl, by decide, inlX1, tyX1_ok, nmX1, wm_118, rfl, rfl, (fun _ => rfl)⟩
theorem fd_X1_43 : aw_Fd RX1 43 1 9 (.array .int) true := ⟨RX1, TX1, 14, tyX1, rfl, by decide, inlX1, tyX1_ok, nmX1, wm_119, rfl, rfl, (fun _ => rfl)⟩
theorem fd_X1_46 : aw_Fd RX1 46 1 10 (.array .int) true := ⟨RX1, TX1, 14, tyX1, rfl, by decide, inlX1, tyX1_ok, nmX1, wm_120, rfl, rfl, (fun _ => rfl)⟩
theorem fd_X1_49 : aw_Fd RX1 49 1 11 (.array .int) true := ⟨RX1, TX1, 14, tyX1, rfl, by decide, inlX1, tyX1_ok, nmX1, wm_121, rfl, rfl, (fun _ => rfl)⟩
theorem fd_X1_52 : aw_Fr RX1 52 3 0 (.object "LateMover$Expressions") := ⟨RX3, TX3, 15, tyX3, rfl, by decide, inlX3, tyX3_ok, nmX3, wm_449, rfl⟩
theorem fd_X1_58 : aw_Fd RX1 58 0 3 .int false := ⟨RX0, TX0, 4, tyX0, rfl, by decide, inlX0, tyX0_ok, nmX0, wm_450, rfl, rfl, (fun h => by cases h)⟩
theorem fd_X1_64 : aw_Fd RX1 64 1 13 .int false := ⟨RX1, TX1, 14, tyX1, rfl, by decide, inlX1, tyX1_ok, nmX1, wm_451, rfl, rfl, (fun h => by cases h)⟩
theorem fd_X1_67 : aw_Fd RX1 67 3 13 .int false := ⟨RX3, TX3, 15, tyX3, rfl, by decide, inlX3, tyX3_ok, nmX3, wm_452, rfl, rfl, (fun h => by cases h)⟩
theorem fd_X2_15 : aw_Fd RX2 15 2 1 (.array .int) true := ⟨RX2, TX2, 4, tyX2, rfl, by decide, inlX2, tyX2_ok, nmX2, wm_126, rfl, rfl, (fun _ => rfl)⟩
theorem fd_X2_18 : aw_Fd RX2 18 2 2 (.array .int) true := ⟨RX2, TX2, 4, tyX2, rfl, by decide, inlX2, tyX2_ok, nmX2, wm_127, rfl, rfl, (fun _ => rfl)⟩
theorem fd_X2_21 : aw_Fd RX2 21 2 3 (.array .int) true := ⟨RX2, TX2, 4, tyX2, rfl, by decide, inlX2, tyX2_ok, nmX2, wm_128, rfl, rfl, (fun _ => rfl)⟩
theorem fd_X2_30 : aw_Fd RX2 30 3 13 .int false := ⟨RX3, TX3, 15, tyX3, rfl, by decide, inlX3, tyX3_ok, nmX3, wm_499, rfl, rfl, (fun h => by cases h)⟩
theorem fd_X2_9 : aw_Fd RX2 9 2 0 (.array .int) true := ⟨RX2, TX2, 4, tyX2, rfl, by decide, inlX2, tyX2_ok, nmX2, wm_125, rfl, rfl, (fun _ => rfl)⟩
theorem fd_X3_100 : aw_Fr RX3 100 7 3 (.array .int) := ⟨RX7, TX7, 16, tyX7, rfl, by decide, inlX7, tyX7_ok, nmX7, wm_390, rfl⟩
theorem fd_X3_101 : aw_Fr RX3 101 7 2 (.array .int) := ⟨RX7, TX7, 16, tyX7, rfl, by decide, inlX7, tyX7_ok, nmX7, wm_391, rfl⟩
theorem fd_X3_105 : aw_Fr RX3 105 7 4 (.array .int) := ⟨RX7, TX7, 16, tyX7, rfl, by decide, inlX7, tyX7_ok, nmX7, wm_408, rfl⟩
theorem fd_X3_106 : aw_Fr RX3 106 7 5 (.array .int) := ⟨RX7, TX7, 16, tyX7, rfl, by decide, inlX7, tyX7_ok, nmX7, wm_409, rfl⟩
theorem fd_X3_107 : aw_Fr RX3 107 7 6 (.array .int) := ⟨RX7, TX7, 16, tyX7, rfl, by decide, inlX7, tyX7_ok, nmX7, wm_410, rfl⟩
theorem fd_X3_108 : aw_Fr RX3 108 7 7 (.array .int) := ⟨RX7, TX7, 16, tyX7, rfl, by decide, inlX7, tyX7_ok, nmX7, wm_395, rfl⟩
theorem fd_X3_109 : aw_Fr RX3 109 7 8 (.array .int) := ⟨RX7, TX7, 16, tyX7, rfl, by decide, inlX7, tyX7_ok, nmX7, wm_396, rfl⟩
theorem fd_X3_12 : aw_Fd RX3 12 3 0 (.object "LateMover$Expressions") true := ⟨RX3, TX3, 15, tyX3, rfl, by decide, inlX3, tyX3_ok, nmX3, wm_91, rfl, rfl, (fun _ => rfl)⟩
theorem fd_X3_18 : aw_Fd RX3 18 3 1 (.array .int) true := ⟨RX3, TX3, 15, tyX3, rfl, by decide, inlX3, tyX3_ok, nmX3, wm_92, rfl, rfl, (fun _ => rfl)⟩
theorem fd_X3_22 : aw_Fd RX3 22 3 2 (.array .int) true := ⟨RX3, TX3, 15, tyX3, rfl, by decide, inlX3, tyX3_ok, nmX3, wm_93, rfl, rfl, (fun _ => rfl)⟩
theorem fd_X3_25 : aw_Fd RX3 25 3 3 (.array .int) true := ⟨RX3, TX3, 15, tyX3, rfl, by decide, inlX3, tyX3_ok, nmX3, wm_94, rfl, rfl, (fun _ => rfl)⟩
theorem fd_X3_28 : aw_Fd RX3 28 3 4 (.array .int) true := ⟨RX3, TX3, 15, tyX3, rfl, by decide, inlX3, tyX3_ok, nmX3, wm_95, rfl, rfl, (fun _ => rfl)⟩
theorem fd_X3_31 : aw_Fd RX3 31 3 5 (.array .int) true := ⟨RX3, TX3, 15, tyX3, rfl, by decide, inlX3, tyX3_ok, nmX3, wm_96, rfl, rfl, (fun _ => rfl)⟩
theorem fd_X3_34 : aw_Fd RX3 34 3 6 (.array .int) true := ⟨RX3, TX3, 15, tyX3, rfl, by decide, inlX3, tyX3_ok, nmX3, wm_97, rfl, rfl, (fun _ => rfl)⟩
theorem fd_X3_37 : aw_Fd RX3 37 3 7 (.array .int) true := ⟨RX3, TX3, 15, tyX3, rfl, by decide, inlX3, tyX3_ok, nmX3, wm_98, rfl, rfl, (fun _ => rfl)⟩
theorem fd_X3_40 : aw_Fd RX3 40 3 8 (.array .int) true := ⟨RX3, TX3, 15, tyX3, rfl, by decide, inlX3, tyX3_ok, nmX3, wm_99, rfl, rfl, (fun _ => rfl)⟩
theorem fd_X3_43 : aw_Fd RX3 43 3 9 (.array .int) true := ⟨RX3, TX3, 15, tyX3, rfl, by decide, inlX3, tyX3_ok, nmX3, wm_100, rfl, rfl, (fun _ => rfl)⟩
theorem fd_X3_46 : aw_Fd RX3 46 3 10 (.array .int) true := ⟨RX3, TX3, 15, tyX3, rfl, by decide, inlX3, tyX3_ok, nmX3, wm_101, rfl, rfl, (fun _ => rfl)⟩
theorem fd_X3_49 : aw_Fd RX3 49 3 11 (.array .int) true := ⟨RX3, TX3, 15, tyX3, rfl, by decide, inlX3, tyX3_ok, nmX3, wm_102, rfl, rfl, (fun _ => rfl)⟩
theorem fd_X3_52 : aw_Fd RX3 52 3 12 (.array .int) true := ⟨RX3, TX3, 15, tyX3, rfl, by decide, inlX3, tyX3_ok, nmX3, wm_103, rfl, rfl, (fun _ => rfl)⟩
theorem fd_X3_55 : aw_Fr RX3 55 7 1 (.object "LateMover$Expressions") := ⟨RX7, TX7, 16, tyX7, rfl, by decide, inlX7, tyX7_ok, nmX7, wm_372, rfl⟩
theorem fd_X3_62 : aw_Fd RX3 62 7 12 .int false := ⟨RX7, TX7, 16, tyX7, rfl, by decide, inlX7, tyX7_ok, nmX7, wm_373, rfl, rfl, (fun h => by cases h)⟩
theorem fd_X3_66 : aw_Fd RX3 66 3 14 .int false := ⟨RX3, TX3, 15, tyX3, rfl, by decide, inlX3, tyX3_ok, nmX3, wm_374, rfl, rfl, (fun h => by cases h)⟩
theorem fd_X3_67 : aw_Fd RX3 67 3 13 .int false := ⟨RX3, TX3, 15, tyX3, rfl, by decide, inlX3, tyX3_ok, nmX3, wm_375, rfl, rfl, (fun h => by cases h)⟩
theorem fd_X3_97 : aw_Fd RX3 97 7 11 .int false := ⟨RX7, TX7, 16, tyX7, rfl, by decide, inlX7, tyX7_ok, nmX7, wm_389, rfl, rfl, (fun h => by cases h)⟩
theorem fd_X4_15 : aw_Fd RX4 15 4 1 (.array .long) true := ⟨RX4, TX4, 5, tyX4, rfl, by decide, inlX4, tyX4_ok, nmX4, wm_134, rfl, rfl, (fun _ => rfl)⟩
theorem fd_X4_18 : aw_Fd RX4 18 4 2 (.array .int) true := ⟨RX4, TX4, 5, tyX4, rfl, by decide, inlX4, tyX4_ok, nmX4, wm_135, rfl, rfl, (fun _ => rfl)⟩
theorem fd_X4_22 : aw_Fd RX4 22 4 3 (.array .int) true := ⟨RX4, TX4, 5, tyX4, rfl, by decide, inlX4, tyX4_ok, nmX4, wm_136, rfl, rfl, (fun _ => rfl)⟩
theorem fd_X4_35 : aw_Fd RX4 35 4 4 .int false := ⟨RX4, TX4, 5, tyX4, rfl, by decide, inlX4, tyX4_ok, nmX4, wm_575, rfl, rfl, (fun h => by cases h)⟩
theorem fd_X4_39 : aw_Fd RX4 39 3 13 .int false := ⟨RX3, TX3, 15, tyX3, rfl, by decide, inlX3, tyX3_ok, nmX3, wm_576, rfl, rfl, (fun h => by cases h)⟩
theorem fd_X4_9 : aw_Fd RX4 9 4 0 (.array .long) true := ⟨RX4, TX4, 5, tyX4, rfl, by decide, inlX4, tyX4_ok, nmX4, wm_133, rfl, rfl, (fun _ => rfl)⟩
theorem fd_X5_101 : aw_Fd RX5 101 5 11 .int false := ⟨RX5, TX5, 13, tyX5, rfl, by decide, inlX5, tyX5_ok, nmX5, wm_1362, rfl, rfl, (fun h => by cases h)⟩
theorem fd_X5_13 : aw_Fd RX5 13 5 0 (.array (.array .int)) true := ⟨RX5, TX5, 13, tyX5, rfl, by decide, inlX5, tyX5_ok, nmX5, wm_166, rfl, rfl, (fun _ => rfl)⟩
theorem fd_X5_16 : aw_Fd RX5 16 5 1 (.array .int) true := ⟨RX5, TX5, 13, tyX5, rfl, by decide, inlX5, tyX5_ok, nmX5, wm_167, rfl, rfl, (fun _ => rfl)⟩
theorem fd_X5_20 : aw_Fd RX5 20 5 2 (.array .int) true := ⟨RX5, TX5, 13, tyX5, rfl, by decide, inlX5, tyX5_ok, nmX5, wm_168, rfl, rfl, (fun _ => rfl)⟩
theorem fd_X5_23 : aw_Fd RX5 23 5 3 (.array .int) true := ⟨RX5, TX5, 13, tyX5, rfl, by decide, inlX5, tyX5_ok, nmX5, wm_169, rfl, rfl, (fun _ => rfl)⟩
theorem fd_X5_26 : aw_Fd RX5 26 5 4 (.array .int) true := ⟨RX5, TX5, 13, tyX5, rfl, by decide, inlX5, tyX5_ok, nmX5, wm_170, rfl, rfl, (fun _ => rfl)⟩
theorem fd_X5_29 : aw_Fd RX5 29 5 5 (.array .int) true := ⟨RX5, TX5, 13, tyX5, rfl, by decide, inlX5, tyX5_ok, nmX5, wm_171, rfl, rfl, (fun _ => rfl)⟩
theorem fd_X5_32 : aw_Fd RX5 32 5 6 .int false := ⟨RX5, TX5, 13, tyX5, rfl, by decide, inlX5, tyX5_ok, nmX5, wm_648, rfl, rfl, (fun h => by cases h)⟩
theorem fd_X5_36 : aw_Fd RX5 36 3 13 .int false := ⟨RX3, TX3, 15, tyX3, rfl, by decide, inlX3, tyX3_ok, nmX3, wm_1337, rfl, rfl, (fun h => by cases h)⟩
theorem fd_X5_57 : aw_Fd RX5 57 5 7 .int false := ⟨RX5, TX5, 13, tyX5, rfl, by decide, inlX5, tyX5_ok, nmX5, wm_1342, rfl, rfl, (fun h => by cases h)⟩
theorem fd_X5_58 : aw_Fd RX5 58 5 12 .int false := ⟨RX5, TX5, 13, tyX5, rfl, by decide, inlX5, tyX5_ok, nmX5, wm_1343, rfl, rfl, (fun h => by cases h)⟩
theorem fd_X5_67 : aw_Fr RX5 67 3 8 (.array .int) := ⟨RX3, TX3, 15, tyX3, rfl, by decide, inlX3, tyX3_ok, nmX3, wm_1344, rfl⟩
theorem fd_X5_70 : aw_Fr RX5 70 3 9 (.array .int) := ⟨RX3, TX3, 15, tyX3, rfl, by decide, inlX3, tyX3_ok, nmX3, wm_1345, rfl⟩
theorem fd_X5_77 : aw_Fr RX5 77 1 1 (.array .int) := ⟨RX1, TX1, 14, tyX1, rfl, by decide, inlX1, tyX1_ok, nmX1, wm_1355, rfl⟩
theorem fd_X5_86 : aw_Fd RX5 86 5 8 .int false := ⟨RX5, TX5, 13, tyX5, rfl, by decide, inlX5, tyX5_ok, nmX5, wm_1356, rfl, rfl, (fun h => by cases h)⟩
theorem fd_X5_88 : aw_Fr RX5 88 1 2 (.array .int) := ⟨RX1, TX1, 14, tyX1, rfl, by decide, inlX1, tyX1_ok, nmX1, wm_1357, rfl⟩
theorem fd_X5_91 : aw_Fd RX5 91 5 9 .int false := ⟨RX5, TX5, 13, tyX5, rfl, by decide, inlX5, tyX5_ok, nmX5, wm_1358, rfl, rfl, (fun h => by cases h)⟩
theorem fd_X5_93 : aw_Fr RX5 93 1 3 (.array .int) := ⟨RX1, TX1, 14, tyX1, rfl, by decide, inlX1, tyX1_ok, nmX1, wm_1359, rfl⟩
theorem fd_X5_96 : aw_Fd RX5 96 5 10 .int false := ⟨RX5, TX5, 13, tyX5, rfl, by decide, inlX5, tyX5_ok, nmX5, wm_1360, rfl, rfl, (fun h => by cases h)⟩
theorem fd_X5_98 : aw_Fr RX5 98 1 5 (.array .int) := ⟨RX1, TX1, 14, tyX1, rfl, by decide, inlX1, tyX1_ok, nmX1, wm_1361, rfl⟩
theorem fd_X6_15 : aw_Fd RX6 15 6 1 (.array .int) true := ⟨RX6, TX6, 6, tyX6, rfl, by decide, inlX6, tyX6_ok, nmX6, wm_141, rfl, rfl, (fun _ => rfl)⟩
theorem fd_X6_18 : aw_Fd RX6 18 6 2 (.array .int) true := ⟨RX6, TX6, 6, tyX6, rfl, by decide, inlX6, tyX6_ok, nmX6, wm_142, rfl, rfl, (fun _ => rfl)⟩
theorem fd_X6_21 : aw_Fd RX6 21 6 3 (.array .int) true := ⟨RX6, TX6, 6, tyX6, rfl, by decide, inlX6, tyX6_ok, nmX6, wm_143, rfl, rfl, (fun _ => rfl)⟩
theorem fd_X6_24 : aw_Fd RX6 24 6 4 (.array .int) true := ⟨RX6, TX6, 6, tyX6, rfl, by decide, inlX6, tyX6_ok, nmX6, wm_144, rfl, rfl, (fun _ => rfl)⟩
theorem fd_X6_27 : aw_Fd RX6 27 3 13 .int false := ⟨RX3, TX3, 15, tyX3, rfl, by decide, inlX3, tyX3_ok, nmX3, wm_619, rfl, rfl, (fun h => by cases h)⟩
theorem fd_X6_50 : aw_Fr RX6 50 3 0 (.object "LateMover$Expressions") := ⟨RX3, TX3, 15, tyX3, rfl, by decide, inlX3, tyX3_ok, nmX3, wm_626, rfl⟩
theorem fd_X6_54 : aw_Fd RX6 54 0 3 .int false := ⟨RX0, TX0, 4, tyX0, rfl, by decide, inlX0, tyX0_ok, nmX0, wm_627, rfl, rfl, (fun h => by cases h)⟩
theorem fd_X6_63 : aw_Fd RX6 63 6 5 .int false := ⟨RX6, TX6, 6, tyX6, rfl, by decide, inlX6, tyX6_ok, nmX6, wm_634, rfl, rfl, (fun h => by cases h)⟩
theorem fd_X6_84 : aw_Fr RX6 84 3 1 (.array .int) := ⟨RX3, TX3, 15, tyX3, rfl, by decide, inlX3, tyX3_ok, nmX3, wm_1314, rfl⟩
theorem fd_X6_9 : aw_Fd RX6 9 6 0 (.array .int) true := ⟨RX6, TX6, 6, tyX6, rfl, by decide, inlX6, tyX6_ok, nmX6, wm_140, rfl, rfl, (fun _ => rfl)⟩
theorem fd_X7_12 : aw_Fd RX7 12 7 0 (.object "LateMover$Text") true := ⟨RX7, TX7, 16, tyX7, rfl, by decide, inlX7, tyX7_ok, nmX7, wm_67, rfl, rfl, (fun _ => rfl)⟩
theorem fd_X7_21 : aw_Fd RX7 21 7 1 (.object "LateMover$Expressions") true := ⟨RX7, TX7, 16, tyX7, rfl, by decide, inlX7, tyX7_ok, nmX7, wm_71, rfl, rfl, (fun _ => rfl)⟩
theorem fd_X7_25 : aw_Fd RX7 25 7 2 (.array .int) true := ⟨RX7, TX7, 16, tyX7, rfl, by decide, inlX7, tyX7_ok, nmX7, wm_72, rfl, rfl, (fun _ => rfl)⟩
theorem fd_X7_29 : aw_Fd RX7 29 7 3 (.array .int) true := ⟨RX7, TX7, 16, tyX7, rfl, by decide, inlX7, tyX7_ok, nmX7, wm_73, rfl, rfl, (fun _ => rfl)⟩
theorem fd_X7_32 : aw_Fd RX7 32 7 4 (.array .int) true := ⟨RX7, TX7, 16, tyX7, rfl, by decide, inlX7, tyX7_ok, nmX7, wm_74, rfl, rfl, (fun _ => rfl)⟩
theorem fd_X7_35 : aw_Fd RX7 35 7 5 (.array .int) true := ⟨RX7, TX7, 16, tyX7, rfl, by decide, inlX7, tyX7_ok, nmX7, wm_75, rfl, rfl, (fun _ => rfl)⟩
theorem fd_X7_38 : aw_Fd RX7 38 7 6 (.array .int) true := ⟨RX7, TX7, 16, tyX7, rfl, by decide, inlX7, tyX7_ok, nmX7, wm_76, rfl, rfl, (fun _ => rfl)⟩
theorem fd_X7_41 : aw_Fd RX7 41 7 7 (.array .int) true := ⟨RX7, TX7, 16, tyX7, rfl, by decide, inlX7, tyX7_ok, nmX7, wm_77, rfl, rfl, (fun _ => rfl)⟩
theorem fd_X7_44 : aw_Fd RX7 44 7 8 (.array .int) true := ⟨RX7, TX7, 16, tyX7, rfl, by decide, inlX7, tyX7_ok, nmX7, wm_78, rfl, rfl, (fun _ => rfl)⟩
theorem fd_X7_47 : aw_Fd RX7 47 7 9 (.array .int) true := ⟨RX7, TX7, 16, tyX7, rfl, by decide, inlX7, tyX7_ok, nmX7, wm_79, rfl, rfl, (fun _ => rfl)⟩
theorem fd_X7_50 : aw_Fd RX7 50 7 10 (.array .int) true := ⟨RX7, TX7, 16, tyX7, rfl, by decide, inlX7, tyX7_ok, nmX7, wm_80, rfl, rfl, (fun _ => rfl)⟩
theorem fd_X7_57 : aw_Fd RX7 57 0 3 .int false := ⟨RX0, TX0, 4, tyX0, rfl, by decide, inlX0, tyX0_ok, nmX0, wm_267, rfl, rfl, (fun h => by cases h)⟩
theorem fd_X7_61 : aw_Fd RX7 61 7 11 .int false := ⟨RX7, TX7, 16, tyX7, rfl, by decide, inlX7, tyX7_ok, nmX7, wm_268, rfl, rfl, (fun h => by cases h)⟩
theorem fd_X7_64 : aw_Fd RX7 64 7 12 .int false := ⟨RX7, TX7, 16, tyX7, rfl, by decide, inlX7, tyX7_ok, nmX7, wm_269, rfl, rfl, (fun h => by cases h)⟩
theorem fd_X7_67 : aw_Fd RX7 67 7 13 .int false := ⟨RX7, TX7, 16, tyX7, rfl, by decide, inlX7, tyX7_ok, nmX7, wm_270, rfl, rfl, (fun h => by cases h)⟩
theorem fd_X7_70 : aw_Fd RX7 70 7 14 .int false := ⟨RX7, TX7, 16, tyX7, rfl, by decide, inlX7, tyX7_ok, nmX7, wm_271, rfl, rfl, (fun h => by cases h)⟩
theorem fd_X7_77 : aw_Fd RX7 77 7 15 .int false := ⟨RX7, TX7, 16, tyX7, rfl, by decide, inlX7, tyX7_ok, nmX7, wm_272, rfl, rfl, (fun h => by cases h)⟩
theorem fd_X8_102 : aw_Fr RX8 102 3 1 (.array .int) := ⟨RX3, TX3, 15, tyX3, rfl, by decide, inlX3, tyX3_ok, nmX3, wm_1130, rfl⟩
theorem fd_X8_105 : aw_Fr RX8 105 3 3 (.array .int) := ⟨RX3, TX3, 15, tyX3, rfl, by decide, inlX3, tyX3_ok, nmX3, wm_1131, rfl⟩
theorem fd_X8_108 : aw_Fr RX8 108 3 4 (.array .int) := ⟨RX3, TX3, 15, tyX3, rfl, by decide, inlX3, tyX3_ok, nmX3, wm_1132, rfl⟩
theorem fd_X8_125 : aw_Fr RX8 125 3 5 (.array .int) := ⟨RX3, TX3, 15, tyX3, rfl, by decide, inlX3, tyX3_ok, nmX3, wm_1141, rfl⟩
theorem fd_X8_131 : aw_Fr RX8 131 6 1 (.array .int) := ⟨RX6, TX6, 6, tyX6, rfl, by decide, inlX6, tyX6_ok, nmX6, wm_1142, rfl⟩
theorem fd_X8_134 : aw_Fr RX8 134 3 9 (.array .int) := ⟨RX3, TX3, 15, tyX3, rfl, by decide, inlX3, tyX3_ok, nmX3, wm_1153, rfl⟩
theorem fd_X8_137 : aw_Fr RX8 137 3 8 (.array .int) := ⟨RX3, TX3, 15, tyX3, rfl, by decide, inlX3, tyX3_ok, nmX3, wm_1154, rfl⟩
theorem fd_X8_140 : aw_Fr RX8 140 0 1 (.array .int) := ⟨RX0, TX0, 4, tyX0, rfl, by decide, inlX0, tyX0_ok, nmX0, wm_1115, rfl⟩
theorem fd_X8_143 : aw_Fr RX8 143 0 2 (.array .int) := ⟨RX0, TX0, 4, tyX0, rfl, by decide, inlX0, tyX0_ok, nmX0, wm_1116, rfl⟩
theorem fd_X8_146 : aw_Fr RX8 146 0 0 (.array .int) := ⟨RX0, TX0, 4, tyX0, rfl, by decide, inlX0, tyX0_ok, nmX0, wm_1117, rfl⟩
theorem fd_X8_15 : aw_Fd RX8 15 8 1 (.array .int) true := ⟨RX8, TX8, 10, tyX8, rfl, by decide, inlX8, tyX8_ok, nmX8, wm_149, rfl, rfl, (fun _ => rfl)⟩
theorem fd_X8_18 : aw_Fd RX8 18 8 2 (.array .int) true := ⟨RX8, TX8, 10, tyX8, rfl, by decide, inlX8, tyX8_ok, nmX8, wm_150, rfl, rfl, (fun _ => rfl)⟩
theorem fd_X8_21 : aw_Fd RX8 21 8 3 (.array .int) true := ⟨RX8, TX8, 10, tyX8, rfl, by decide, inlX8, tyX8_ok, nmX8, wm_151, rfl, rfl, (fun _ => rfl)⟩
theorem fd_X8_36 : aw_Fd RX8 36 8 5 .int false := ⟨RX8, TX8, 10, tyX8, rfl, by decide, inlX8, tyX8_ok, nmX8, wm_1092, rfl, rfl, (fun h => by cases h)⟩
theorem fd_X8_40 : aw_Fd RX8 40 8 6 .int false := ⟨RX8, TX8, 10, tyX8, rfl, by decide, inlX8, tyX8_ok, nmX8, wm_1093, rfl, rfl, (fun h => by cases h)⟩
theorem fd_X8_43 : aw_Fd RX8 43 8 7 .int false := ⟨RX8, TX8, 10, tyX8, rfl, by decide, inlX8, tyX8_ok, nmX8, wm_1094, rfl, rfl, (fun h => by cases h)⟩
theorem fd_X8_46 : aw_Fd RX8 46 8 8 .int false := ⟨RX8, TX8, 10, tyX8, rfl, by decide, inlX8, tyX8_ok, nmX8, wm_1095, rfl, rfl, (fun h => by cases h)⟩
theorem fd_X8_49 : aw_Fd RX8 49 8 4 .int false := ⟨RX8, TX8, 10, tyX8, rfl, by decide, inlX8, tyX8_ok, nmX8, wm_1096, rfl, rfl, (fun h => by cases h)⟩
theorem fd_X8_77 : aw_Fr RX8 77 6 0 (.array .int) := ⟨RX6, TX6, 6, tyX6, rfl, by decide, inlX6, tyX6_ok, nmX6, wm_1107, rfl⟩
theorem fd_X8_82 : aw_Fr RX8 82 3 0 (.object "LateMover$Expressions") := ⟨RX3, TX3, 15, tyX3, rfl, by decide, inlX3, tyX3_ok, nmX3, wm_1108, rfl⟩
theorem fd_X8_86 : aw_Fd RX8 86 0 3 .int false := ⟨RX0, TX0, 4, tyX0, rfl, by decide, inlX0, tyX0_ok, nmX0, wm_1109, rfl, rfl, (fun h => by cases h)⟩
theorem fd_X8_9 : aw_Fd RX8 9 8 0 (.array .int) true := ⟨RX8, TX8, 10, tyX8, rfl, by decide, inlX8, tyX8_ok, nmX8, wm_148, rfl, rfl, (fun _ => rfl)⟩
theorem fd_X8_99 : aw_Fd RX8 99 8 9 .int false := ⟨RX8, TX8, 10, tyX8, rfl, by decide, inlX8, tyX8_ok, nmX8, wm_1110, rfl, rfl, (fun h => by cases h)⟩
theorem fd_X9_15 : aw_Fd RX9 15 9 1 .int false := ⟨RX9, TX9, 2, tyX9, rfl, by decide, inlX9, tyX9_ok, nmX9, wm_225, rfl, rfl, (fun h => by cases h)⟩
theorem fd_X9_9 : aw_Fd RX9 9 9 0 (.array .byte) true := ⟨RX9, TX9, 2, tyX9, rfl, by decide, inlX9, tyX9_ok, nmX9, wm_62, rfl, rfl, (fun _ => rfl)⟩
abbrev M_Te_size : aw_M := (RX9, cX9_size, 1, (some .int), false)
abbrev B_Te_size : aw_B := (1, 24, 0, 0)
abbrev M_Te_put : aw_M := (RX9, cX9_put, 2, none, false)
abbrev B_Te_put : aw_B := (1, 24, 0, 0)
abbrev M_Te_putFour : aw_M := (RX9, cX9_putFour, 2, none, false)
abbrev B_Te_putFour : aw_B := (2, 45, 0, 0)
abbrev M_Mo_feed : aw_M := (RX11, cX11_feed, 6, (some .int), false)
abbrev B_Mo_feed : aw_B := (3, 66, 0, 0)
abbrev M_Te_cut : aw_M := (RX9, cX9_cut, 2, none, false)
abbrev B_Te_cut : aw_B := (1, 24, 0, 0)
abbrev M_Mo_end : aw_M := (RX11, cX11_end, 2, (some .int), false)
abbrev B_Mo_end : aw_B := (2, 45, 0, 0)
abbrev M_Te_copyFrom : aw_M := (RX9, cX9_copyFrom, 2, none, false)
abbrev B_Te_copyFrom : aw_B := (2, 60, 0, 0)
abbrev M_Te_at : aw_M := (RX9, cX9_at, 2, (some .int), false)
abbrev B_Te_at : aw_B := (1, 24, 0, 0)
abbrev M_Re_isLetter : aw_M := (RX7, cX7_isLetter, 1, (some .boolean), false)
abbrev B_Re_isLetter : aw_B := (1, 24, 0, 0)
abbrev M_Re_startsStatement : aw_M := (RX7, cX7_startsStatement, 1, (some .boolean), false)
abbrev B_Re_startsStatement : aw_B := (2, 45, 0, 0)
abbrev M_Re_refuse : aw_M := (RX7, cX7_refuse, 2, (some .boolean), false)
abbrev B_Re_refuse : aw_B := (1, 24, 0, 0)
abbrev M_Re_take : aw_M := (RX7, cX7_take, 2, (some .boolean), false)
abbrev B_Re_take : aw_B := (2, 45, 0, 0)
abbrev M_Re_isDigit : aw_M := (RX7, cX7_isDigit, 1, (some .boolean), false)
abbrev B_Re_isDigit : aw_B := (1, 24, 0, 0)
abbrev M_Re_readNumber : aw_M := (RX7, cX7_readNumber, 4, (some .int), false)
abbrev B_Re_readNumber : aw_B := (2, 45, 0, 0)
abbrev M_Re_readOperand : aw_M := (RX7, cX7_readOperand, 3, (some .int), false)
abbrev B_Re_readOperand : aw_B := (3, 68, 0, 0)
abbrev M_Re_isOperator : aw_M := (RX7, cX7_isOperator, 1, (some .boolean), false)
abbrev B_Re_isOperator : aw_B := (1, 24, 0, 0)
abbrev M_Ex_numberOf : aw_M := (RX0, cX0_numberOf, 5, (some .int), false)
abbrev B_Ex_numberOf : aw_B := (1, 24, 0, 0)
abbrev M_Re_addLine : aw_M := (RX7, cX7_addLine, 2, (some .boolean), false)
abbrev B_Re_addLine : aw_B := (2, 45, 0, 0)
abbrev M_Re_addStatement : aw_M := (RX7, cX7_addStatement, 5, (some .boolean), false)
abbrev B_Re_addStatement : aw_B := (3, 66, 0, 0)
abbrev M_Re_readRightSide : aw_M := (RX7, cX7_readRightSide, 7, (some .boolean), false)
abbrev B_Re_readRightSide : aw_B := (4, 90, 0, 0)
abbrev M_Re_readStatement : aw_M := (RX7, cX7_readStatement, 3, (some .boolean), false)
abbrev B_Re_readStatement : aw_B := (5, 116, 0, 0)
abbrev M_Re_readTarget : aw_M := (RX7, cX7_readTarget, 6, (some .boolean), false)
abbrev B_Re_readTarget : aw_B := (3, 68, 0, 0)
abbrev M_Re_readChoice : aw_M := (RX7, cX7_readChoice, 2, (some .boolean), false)
abbrev B_Re_readChoice : aw_B := (4, 93, 0, 0)
abbrev M_Re_readEnd : aw_M := (RX7, cX7_readEnd, 2, (some .boolean), false)
abbrev B_Re_readEnd : aw_B := (5, 114, 0, 0)
abbrev M_Re_readBlock : aw_M := (RX7, cX7_readBlock, 2, (some .boolean), false)
abbrev B_Re_readBlock : aw_B := (6, 138, 0, 0)
abbrev M_Re_findStrayNumber : aw_M := (RX7, cX7_findStrayNumber, 2, none, false)
abbrev B_Re_findStrayNumber : aw_B := (1, 24, 0, 0)
abbrev M_Re_faultOf : aw_M := (RX7, cX7_faultOf, 3, (some .int), false)
abbrev B_Re_faultOf : aw_B := (7, 159, 0, 0)
abbrev M_Ex_copyFrom : aw_M := (RX0, cX0_copyFrom, 2, none, false)
abbrev B_Ex_copyFrom : aw_B := (2, 60, 0, 0)
abbrev M_Gr_add : aw_M := (RX3, cX3_add, 3, (some .int), false)
abbrev B_Gr_add : aw_B := (1, 24, 0, 0)
abbrev M_Gr_blockBit : aw_M := (RX3, cX3_blockBit, 1, (some .int), false)
abbrev B_Gr_blockBit : aw_B := (1, 24, 0, 0)
abbrev M_Gr_reachedBlocks : aw_M := (RX3, cX3_reachedBlocks, 4, (some .int), false)
abbrev B_Gr_reachedBlocks : aw_B := (2, 44, 0, 0)
abbrev M_Ar_fillI : aw_M := (RJ7, cJ7_fill_53178, 4, none, false)
abbrev B_Ar_fillI : aw_B := (1, 24, 0, 0)
abbrev M_Gr_fill : aw_M := (RX3, cX3_fill, 4, none, false)
abbrev B_Gr_fill : aw_B := (1, 24, 0, 0)
abbrev M_Gr_addReached : aw_M := (RX3, cX3_addReached, 6, none, false)
abbrev B_Gr_addReached : aw_B := (3, 67, 0, 0)
abbrev M_Gr_startOf : aw_M := (RX3, cX3_startOf, 2, (some .int), false)
abbrev B_Gr_startOf : aw_B := (1, 24, 0, 0)
abbrev M_Gr_joinNodes : aw_M := (RX3, cX3_joinNodes, 2, none, false)
abbrev B_Gr_joinNodes : aw_B := (2, 45, 0, 0)
abbrev M_Gr_isNode : aw_M := (RX3, cX3_isNode, 2, (some .boolean), false)
abbrev B_Gr_isNode : aw_B := (1, 24, 0, 0)
abbrev M_Mo_oneIf : aw_M := (RX11, cX11_oneIf, 1, (some .int), false)
abbrev B_Mo_oneIf : aw_B := (1, 24, 0, 0)
abbrev M_Gr_edgesFrom : aw_M := (RX3, cX3_edgesFrom, 2, (some .int), false)
abbrev B_Gr_edgesFrom : aw_B := (2, 45, 0, 0)
abbrev M_Gr_comingTo : aw_M := (RX3, cX3_comingTo, 4, (some .int), false)
abbrev B_Gr_comingTo : aw_B := (2, 44, 0, 0)
abbrev M_Gr_splitIfOthersCome : aw_M := (RX3, cX3_splitIfOthersCome, 3, (some .int), false)
abbrev B_Gr_splitIfOthersCome : aw_B := (3, 67, 0, 0)
abbrev M_Gr_splitEdges : aw_M := (RX3, cX3_splitEdges, 3, none, false)
abbrev B_Gr_splitEdges : aw_B := (4, 89, 0, 0)
abbrev M_Gr_listFrom : aw_M := (RX3, cX3_listFrom, 4, none, false)
abbrev B_Gr_listFrom : aw_B := (1, 24, 0, 0)
abbrev M_Gr_build : aw_M := (RX3, cX3_build, 2, none, false)
abbrev B_Gr_build : aw_B := (5, 111, 0, 0)
abbrev M_Ex_isOne : aw_M := (RX0, cX0_isOne, 2, (some .boolean), false)
abbrev B_Ex_isOne : aw_B := (1, 24, 0, 0)
abbrev M_Fa_usedAt : aw_M := (RX1, cX1_usedAt, 3, (some .int), false)
abbrev B_Fa_usedAt : aw_B := (2, 45, 0, 0)
abbrev M_Fa_letterChangedAt : aw_M := (RX1, cX1_letterChangedAt, 2, (some .int), false)
abbrev B_Fa_letterChangedAt : aw_B := (1, 24, 0, 0)
abbrev M_Ex_letterBit : aw_M := (RX0, cX0_letterBit, 1, (some .int), false)
abbrev B_Ex_letterBit : aw_B := (1, 24, 0, 0)
abbrev M_Ex_lettersOf : aw_M := (RX0, cX0_lettersOf, 2, (some .int), false)
abbrev B_Ex_lettersOf : aw_B := (2, 45, 0, 0)
abbrev M_Ex_isRisky : aw_M := (RX0, cX0_isRisky, 2, (some .boolean), false)
abbrev B_Ex_isRisky : aw_B := (2, 45, 0, 0)
abbrev M_Fa_hinders : aw_M := (RX1, cX1_hinders, 4, (some .boolean), false)
abbrev B_Fa_hinders : aw_B := (3, 66, 0, 0)
abbrev M_Fa_keptAt : aw_M := (RX1, cX1_keptAt, 6, (some .int), false)
abbrev B_Fa_keptAt : aw_B := (4, 89, 0, 0)
abbrev M_Fl_tell : aw_M := (RX2, cX2_tell, 6, none, false)
abbrev B_Fl_tell : aw_B := (1, 24, 0, 0)
abbrev M_Gr_edgesTo : aw_M := (RX3, cX3_edgesTo, 2, (some .int), false)
abbrev B_Gr_edgesTo : aw_B := (2, 45, 0, 0)
abbrev M_Gr_kthSource : aw_M := (RX3, cX3_kthSource, 4, (some .int), false)
abbrev B_Gr_kthSource : aw_B := (2, 45, 0, 0)
abbrev M_Fl_side : aw_M := (RX2, cX2_side, 4, (some .int), false)
abbrev B_Fl_side : aw_B := (2, 45, 0, 0)
abbrev M_Gr_kthTarget : aw_M := (RX3, cX3_kthTarget, 3, (some .int), false)
abbrev B_Gr_kthTarget : aw_B := (2, 45, 0, 0)
abbrev M_Fl_inOne : aw_M := (RX2, cX2_inOne, 8, (some .int), false)
abbrev B_Fl_inOne : aw_B := (3, 68, 0, 0)
abbrev M_Fl_inAll : aw_M := (RX2, cX2_inAll, 9, (some .int), false)
abbrev B_Fl_inAll : aw_B := (3, 68, 0, 0)
abbrev M_Fl_solve : aw_M := (RX2, cX2_solve, 12, none, false)
abbrev B_Fl_solve : aw_B := (4, 96, 0, 0)
abbrev M_Gr_nodesWith : aw_M := (RX3, cX3_nodesWith, 5, (some .int), false)
abbrev B_Gr_nodesWith : aw_B := (2, 44, 0, 0)
abbrev M_Fa_findSound : aw_M := (RX1, cX1_findSound, 3, none, false)
abbrev B_Fa_findSound : aw_B := (5, 127, 0, 0)
abbrev M_Fa_lettersReadAt : aw_M := (RX1, cX1_lettersReadAt, 2, (some .int), false)
abbrev B_Fa_lettersReadAt : aw_B := (3, 66, 0, 0)
abbrev M_Fa_findLive : aw_M := (RX1, cX1_findLive, 3, none, false)
abbrev B_Fa_findLive : aw_B := (5, 127, 0, 0)
abbrev M_Fa_findNeeded : aw_M := (RX1, cX1_findNeeded, 3, none, false)
abbrev B_Fa_findNeeded : aw_B := (5, 127, 0, 0)
abbrev M_Fa_findAtHand : aw_M := (RX1, cX1_findAtHand, 3, none, false)
abbrev B_Fa_findAtHand : aw_B := (5, 127, 0, 0)
abbrev M_Fa_findMaybe : aw_M := (RX1, cX1_findMaybe, 3, none, false)
abbrev B_Fa_findMaybe : aw_B := (5, 127, 0, 0)
abbrev M_Fa_findEarly : aw_M := (RX1, cX1_findEarly, 6, none, false)
abbrev B_Fa_findEarly : aw_B := (3, 68, 0, 0)
abbrev M_Fa_findDelayed : aw_M := (RX1, cX1_findDelayed, 3, none, false)
abbrev B_Fa_findDelayed : aw_B := (5, 127, 0, 0)
abbrev M_Fa_findLate : aw_M := (RX1, cX1_findLate, 6, none, false)
abbrev B_Fa_findLate : aw_B := (3, 67, 0, 0)
abbrev M_Fa_findAlone : aw_M := (RX1, cX1_findAlone, 3, none, false)
abbrev B_Fa_findAlone : aw_B := (5, 127, 0, 0)
abbrev M_Fa_build : aw_M := (RX1, cX1_build, 3, none, false)
abbrev B_Fa_build : aw_B := (6, 149, 0, 0)
abbrev M_Ar_fillJ : aw_M := (RJ7, cJ7_fill_d0a16, 5, none, false)
abbrev B_Ar_fillJ : aw_B := (1, 24, 0, 0)
abbrev M_Lo_narrowsAt : aw_M := (RX4, cX4_narrowsAt, 9, (some .boolean), false)
abbrev B_Lo_narrowsAt : aw_B := (3, 68, 0, 0)
abbrev M_Lo_findOver : aw_M := (RX4, cX4_findOver, 5, none, false)
abbrev B_Lo_findOver : aw_B := (4, 96, 0, 0)
abbrev M_Lo_isOver : aw_M := (RX4, cX4_isOver, 3, (some .boolean), false)
abbrev B_Lo_isOver : aw_B := (1, 24, 0, 0)
abbrev M_Lo_isHead : aw_M := (RX4, cX4_isHead, 5, (some .boolean), false)
abbrev B_Lo_isHead : aw_B := (3, 68, 0, 0)
abbrev M_Lo_leadsInside : aw_M := (RX4, cX4_leadsInside, 5, (some .boolean), false)
abbrev B_Lo_leadsInside : aw_B := (3, 67, 0, 0)
abbrev M_Lo_addLoop : aw_M := (RX4, cX4_addLoop, 6, none, false)
abbrev B_Lo_addLoop : aw_B := (4, 91, 0, 0)
abbrev M_Lo_build : aw_M := (RX4, cX4_build, 3, none, false)
abbrev B_Lo_build : aw_B := (5, 120, 0, 0)
abbrev M_Pl_tell : aw_M := (RX6, cX6_tell, 4, none, false)
abbrev B_Pl_tell : aw_B := (1, 24, 0, 0)
abbrev M_Mo_bitOf : aw_M := (RX11, cX11_bitOf, 2, (some .int), false)
abbrev B_Mo_bitOf : aw_B := (1, 24, 0, 0)
abbrev M_Pl_findClashes : aw_M := (RX6, cX6_findClashes, 5, none, false)
abbrev B_Pl_findClashes : aw_B := (2, 45, 0, 0)
abbrev M_Pl_firstFreeName : aw_M := (RX6, cX6_firstFreeName, 4, (some .int), false)
abbrev B_Pl_firstFreeName : aw_B := (2, 45, 0, 0)
abbrev M_Pl_shareNames : aw_M := (RX6, cX6_shareNames, 3, none, false)
abbrev B_Pl_shareNames : aw_B := (3, 68, 0, 0)
abbrev M_Pl_build : aw_M := (RX6, cX6_build, 4, none, false)
abbrev B_Pl_build : aw_B := (5, 127, 0, 0)
abbrev M_Ot_forget : aw_M := (RX5, cX5_forget, 1, none, false)
abbrev B_Ot_forget : aw_B := (1, 24, 0, 0)
abbrev M_Mo_settle : aw_M := (RX11, cX11_settle, 3, none, false)
abbrev B_Mo_settle : aw_B := (7, 171, 0, 0)
abbrev M_Mo_program : aw_M := (RX11, cX11_program, 1, (some .int), false)
abbrev B_Mo_program : aw_B := (8, 193, 0, 0)
abbrev M_Mo_fault : aw_M := (RX11, cX11_fault, 1, (some .int), false)
abbrev B_Mo_fault : aw_B := (1, 24, 0, 0)
abbrev M_Mo_isProgram : aw_M := (RX11, cX11_isProgram, 1, (some .boolean), false)
abbrev B_Mo_isProgram : aw_B := (1, 24, 0, 0)
abbrev M_Mo_keep : aw_M := (RX11, cX11_keep, 3, (some .boolean), false)
abbrev B_Mo_keep : aw_B := (3, 81, 0, 0)
abbrev M_Mo_back : aw_M := (RX11, cX11_back, 3, (some .boolean), false)
abbrev B_Mo_back : aw_B := (8, 193, 0, 0)
abbrev M_Gr_edges : aw_M := (RX3, cX3_edges, 3, (some .int), false)
abbrev B_Gr_edges : aw_B := (3, 66, 0, 0)
abbrev M_Gr_countOf : aw_M := (RX3, cX3_countOf, 4, (some .int), false)
abbrev B_Gr_countOf : aw_B := (2, 44, 0, 0)
abbrev M_Mo_is : aw_M := (RX11, cX11_is, 2, (some .int), false)
abbrev B_Mo_is : aw_B := (4, 88, 0, 0)
abbrev M_Mo_node : aw_M := (RX11, cX11_node, 3, (some .int), false)
abbrev B_Mo_node : aw_B := (3, 66, 0, 0)
abbrev M_Mo_expression : aw_M := (RX11, cX11_expression, 4, (some .int), false)
abbrev B_Mo_expression : aw_B := (3, 68, 0, 0)
abbrev M_Mo_risky : aw_M := (RX11, cX11_risky, 3, (some .int), false)
abbrev B_Mo_risky : aw_B := (3, 66, 0, 0)
abbrev M_Mo_isSoundOne : aw_M := (RX11, cX11_isSoundOne, 2, (some .boolean), false)
abbrev B_Mo_isSoundOne : aw_B := (2, 45, 0, 0)
abbrev M_Mo_fact : aw_M := (RX11, cX11_fact, 4, (some .int), false)
abbrev B_Mo_fact : aw_B := (3, 66, 0, 0)
abbrev M_Mo_isMoved : aw_M := (RX11, cX11_isMoved, 2, (some .boolean), false)
abbrev B_Mo_isMoved : aw_B := (1, 24, 0, 0)
abbrev M_Mo_placementBy : aw_M := (RX11, cX11_placementBy, 2, (some (.object "LateMover$Placement")), false)
abbrev B_Mo_placementBy : aw_B := (1, 24, 0, 0)
abbrev M_Mo_placed : aw_M := (RX11, cX11_placed, 6, (some .int), false)
abbrev B_Mo_placed : aw_B := (3, 66, 0, 0)
abbrev M_In_bitCount : aw_M := (RJ6, cJ6_bitCount_0f7a4, 1, (some .int), false)
abbrev B_In_bitCount : aw_B := (1, 24, 0, 0)
abbrev M_Gr_bitsIn : aw_M := (RX3, cX3_bitsIn, 4, (some .int), false)
abbrev B_Gr_bitsIn : aw_B := (2, 44, 0, 0)
abbrev M_Mo_countIn : aw_M := (RX11, cX11_countIn, 3, (some .int), false)
abbrev B_Mo_countIn : aw_B := (3, 68, 0, 0)
abbrev M_Pl_clashingPairs : aw_M := (RX6, cX6_clashingPairs, 4, (some .int), false)
abbrev B_Pl_clashingPairs : aw_B := (2, 44, 0, 0)
abbrev M_Mo_placement : aw_M := (RX11, cX11_placement, 5, (some .int), false)
abbrev B_Mo_placement : aw_B := (4, 90, 0, 0)
abbrev M_Mo_shared : aw_M := (RX11, cX11_shared, 4, (some .int), false)
abbrev B_Mo_shared : aw_B := (2, 45, 0, 0)
abbrev M_Mo_most : aw_M := (RX11, cX11_most, 5, (some .int), false)
abbrev B_Mo_most : aw_B := (2, 45, 0, 0)
abbrev M_Mo_letter : aw_M := (RX11, cX11_letter, 4, (some .int), false)
abbrev B_Mo_letter : aw_B := (1, 24, 0, 0)
abbrev M_Mo_isRunnable : aw_M := (RX11, cX11_isRunnable, 2, (some .boolean), false)
abbrev B_Mo_isRunnable : aw_B := (2, 45, 0, 0)
abbrev M_Ru_valueOf : aw_M := (RX8, cX8_valueOf, 2, (some .int), false)
abbrev B_Ru_valueOf : aw_B := (1, 24, 0, 0)
abbrev M_Ru_divide : aw_M := (RX8, cX8_divide, 4, (some .boolean), false)
abbrev B_Ru_divide : aw_B := (1, 24, 0, 0)
abbrev M_Ru_compute : aw_M := (RX8, cX8_compute, 5, (some .boolean), false)
abbrev B_Ru_compute : aw_B := (2, 47, 0, 0)
abbrev M_Ru_putIn : aw_M := (RX8, cX8_putIn, 5, (some .boolean), false)
abbrev B_Ru_putIn : aw_B := (3, 71, 0, 0)
abbrev M_Ru_setLetter : aw_M := (RX8, cX8_setLetter, 3, none, false)
abbrev B_Ru_setLetter : aw_B := (1, 24, 0, 0)
abbrev M_Ru_assign : aw_M := (RX8, cX8_assign, 4, (some .boolean), false)
abbrev B_Ru_assign : aw_B := (3, 71, 0, 0)
abbrev M_Ru_writeOut : aw_M := (RX8, cX8_writeOut, 2, none, false)
abbrev B_Ru_writeOut : aw_B := (1, 24, 0, 0)
abbrev M_Ru_doNode : aw_M := (RX8, cX8_doNode, 3, (some .boolean), false)
abbrev B_Ru_doNode : aw_B := (4, 94, 0, 0)
abbrev M_Ru_nextNode : aw_M := (RX8, cX8_nextNode, 3, (some .int), false)
abbrev B_Ru_nextNode : aw_B := (2, 45, 0, 0)
abbrev M_Ru_step : aw_M := (RX8, cX8_step, 3, none, false)
abbrev B_Ru_step : aw_B := (5, 116, 0, 0)
abbrev M_Ru_follow : aw_M := (RX8, cX8_follow, 5, none, false)
abbrev B_Ru_follow : aw_B := (6, 138, 0, 0)
abbrev M_Mo_run : aw_M := (RX11, cX11_run, 3, (some .int), false)
abbrev B_Mo_run : aw_B := (7, 162, 0, 0)
abbrev M_Mo_computed : aw_M := (RX11, cX11_computed, 2, (some .int), false)
abbrev B_Mo_computed : aw_B := (2, 45, 0, 0)
abbrev M_Mo_output : aw_M := (RX11, cX11_output, 2, (some .int), false)
abbrev B_Mo_output : aw_B := (1, 24, 0, 0)
abbrev M_Mo_behind : aw_M := (RX11, cX11_behind, 2, (some .int), false)
abbrev B_Mo_behind : aw_B := (1, 24, 0, 0)
abbrev M_Ru_endsAndWroteLike : aw_M := (RX8, cX8_endsAndWroteLike, 3, (some .boolean), false)
abbrev B_Ru_endsAndWroteLike : aw_B := (1, 24, 0, 0)
abbrev M_Mo_alike : aw_M := (RX11, cX11_alike, 2, (some .int), false)
abbrev B_Mo_alike : aw_B := (7, 162, 0, 0)
abbrev M_Mo_live : aw_M := (RX11, cX11_live, 2, (some .int), false)
abbrev B_Mo_live : aw_B := (2, 45, 0, 0)
abbrev M_Fa_isDead : aw_M := (RX1, cX1_isDead, 7, (some .boolean), false)
abbrev B_Fa_isDead : aw_B := (3, 67, 0, 0)
abbrev M_Mo_dead : aw_M := (RX11, cX11_dead, 4, (some .int), false)
abbrev B_Mo_dead : aw_B := (4, 93, 0, 0)
abbrev M_Mo_again : aw_M := (RX11, cX11_again, 7, (some .int), false)
abbrev B_Mo_again : aw_B := (3, 66, 0, 0)
abbrev M_Mo_over : aw_M := (RX11, cX11_over, 3, (some .int), false)
abbrev B_Mo_over : aw_B := (2, 46, 0, 0)
abbrev M_Mo_depth : aw_M := (RX11, cX11_depth, 2, (some .int), false)
abbrev B_Mo_depth : aw_B := (2, 45, 0, 0)
abbrev M_Mo_heads : aw_M := (RX11, cX11_heads, 1, (some .int), false)
abbrev B_Mo_heads : aw_B := (1, 24, 0, 0)
abbrev M_Pl_computedAt : aw_M := (RX6, cX6_computedAt, 4, (some .int), false)
abbrev B_Pl_computedAt : aw_B := (2, 44, 0, 0)
abbrev M_Mo_powerOfTen : aw_M := (RX11, cX11_powerOfTen, 4, (some .long), false)
abbrev B_Mo_powerOfTen : aw_B := (1, 24, 0, 0)
abbrev M_Mo_weight : aw_M := (RX11, cX11_weight, 6, (some .long), false)
abbrev B_Mo_weight : aw_B := (3, 67, 0, 0)
abbrev M_Ot_nodeBit : aw_M := (RX5, cX5_nodeBit, 2, (some .int), false)
abbrev B_Ot_nodeBit : aw_B := (1, 24, 0, 0)
abbrev M_Ot_takeGraph : aw_M := (RX5, cX5_takeGraph, 4, none, false)
abbrev B_Ot_takeGraph : aw_B := (2, 47, 0, 0)
abbrev M_Ot_column : aw_M := (RX5, cX5_column, 5, (some .int), false)
abbrev B_Ot_column : aw_B := (2, 45, 0, 0)
abbrev M_Ot_takeFacts : aw_M := (RX5, cX5_takeFacts, 3, none, false)
abbrev B_Ot_takeFacts : aw_B := (3, 69, 0, 0)
abbrev M_Ot_isRight : aw_M := (RX5, cX5_isRight, 8, (some .boolean), false)
abbrev B_Ot_isRight : aw_B := (2, 45, 0, 0)
abbrev M_Ot_gain : aw_M := (RX5, cX5_gain, 3, (some .int), false)
abbrev B_Ot_gain : aw_B := (2, 45, 0, 0)
abbrev M_Ot_carry : aw_M := (RX5, cX5_carry, 4, (some .boolean), false)
abbrev B_Ot_carry : aw_B := (3, 67, 0, 0)
abbrev M_Ot_endsAhead : aw_M := (RX5, cX5_endsAhead, 2, (some .boolean), false)
abbrev B_Ot_endsAhead : aw_B := (2, 45, 0, 0)
abbrev M_Ot_isFew : aw_M := (RX5, cX5_isFew, 7, (some .boolean), false)
abbrev B_Ot_isFew : aw_B := (4, 90, 0, 0)
abbrev M_Ot_lifeOf : aw_M := (RX5, cX5_lifeOf, 7, (some .int), false)
abbrev B_Ot_lifeOf : aw_B := (2, 44, 0, 0)
abbrev M_Ot_lesser : aw_M := (RX5, cX5_lesser, 2, (some .int), false)
abbrev B_Ot_lesser : aw_B := (2, 40, 0, 0)
abbrev M_Ot_tryAll : aw_M := (RX5, cX5_tryAll, 7, none, false)
abbrev B_Ot_tryAll : aw_B := (5, 116, 0, 0)
abbrev M_Ot_answer : aw_M := (RX5, cX5_answer, 5, (some .int), false)
abbrev B_Ot_answer : aw_B := (6, 142, 0, 0)
abbrev M_Mo_others : aw_M := (RX11, cX11_others, 3, (some .int), false)
abbrev B_Mo_others : aw_B := (7, 166, 0, 0)
abbrev M_Wa_endWaysAtLast : aw_M := (RX10, cX10_endWaysAtLast, 3, none, false)
abbrev B_Wa_endWaysAtLast : aw_B := (3, 66, 0, 0)
abbrev M_Wa_extend : aw_M := (RX10, cX10_extend, 7, none, false)
abbrev B_Wa_extend : aw_B := (2, 45, 0, 0)
abbrev M_Wa_swap : aw_M := (RX10, cX10_swap, 4, none, false)
abbrev B_Wa_swap : aw_B := (1, 24, 0, 0)
abbrev M_Wa_goOnByOneEdge : aw_M := (RX10, cX10_goOnByOneEdge, 4, none, false)
abbrev B_Wa_goOnByOneEdge : aw_B := (3, 71, 0, 0)
abbrev M_Wa_count : aw_M := (RX10, cX10_count, 5, none, false)
abbrev B_Wa_count : aw_B := (4, 94, 0, 0)
abbrev M_Mo_ways : aw_M := (RX11, cX11_ways, 4, (some .long), false)
abbrev B_Mo_ways : aw_B := (5, 118, 0, 0)
abbrev M_Te_putNumber : aw_M := (RX9, cX9_putNumber, 2, none, false)
abbrev B_Te_putNumber : aw_B := (2, 45, 0, 0)
abbrev M_Mo_writeName : aw_M := (RX11, cX11_writeName, 2, none, false)
abbrev B_Mo_writeName : aw_B := (3, 66, 0, 0)
abbrev M_Mo_writeOperand : aw_M := (RX11, cX11_writeOperand, 2, none, false)
abbrev B_Mo_writeOperand : aw_B := (3, 66, 0, 0)
abbrev M_Mo_writeExpression : aw_M := (RX11, cX11_writeExpression, 2, none, false)
abbrev B_Mo_writeExpression : aw_B := (4, 87, 0, 0)
abbrev M_Mo_writeAssignment : aw_M := (RX11, cX11_writeAssignment, 3, none, false)
abbrev B_Mo_writeAssignment : aw_B := (5, 108, 0, 0)
abbrev M_Mo_writeEnd : aw_M := (RX11, cX11_writeEnd, 3, none, false)
abbrev B_Mo_writeEnd : aw_B := (3, 66, 0, 0)
abbrev M_Mo_writeNode : aw_M := (RX11, cX11_writeNode, 4, none, false)
abbrev B_Mo_writeNode : aw_B := (6, 130, 0, 0)
abbrev M_Mo_write : aw_M := (RX11, cX11_write, 5, (some .int), false)
abbrev B_Mo_write : aw_B := (7, 153, 0, 0)
abbrev M_Mo_octet : aw_M := (RX11, cX11_octet, 2, (some .int), false)
abbrev B_Mo_octet : aw_B := (2, 45, 0, 0)
abbrev M_Rf_four : aw_M := (RX12, cX12_four, 3, none, false)
abbrev B_Rf_four : aw_B := (1, 24, 0, 0)
abbrev M_Rf_feed : aw_M := (RX12, cX12_feed, 6, (some .int), false)
abbrev B_Rf_feed : aw_B := (2, 46, 0, 0)
abbrev M_Rf_isIn : aw_M := (RX12, cX12_isIn, 3, (some .boolean), false)
abbrev B_Rf_isIn : aw_B := (1, 24, 0, 0)
abbrev M_Rf_end : aw_M := (RX12, cX12_end, 2, (some .int), false)
abbrev B_Rf_end : aw_B := (2, 46, 0, 0)
abbrev M_Rf_put : aw_M := (RX12, cX12_put, 3, none, false)
abbrev B_Rf_put : aw_B := (1, 24, 0, 0)
abbrev M_Rf_read : aw_M := (RX12, cX12_read, 2, (some .int), false)
abbrev B_Rf_read : aw_B := (1, 24, 0, 0)
abbrev M_Rf_here : aw_M := (RX12, cX12_here, 1, (some .int), false)
abbrev B_Rf_here : aw_B := (1, 24, 0, 0)
abbrev M_Rf_isLetter : aw_M := (RX12, cX12_isLetter, 1, (some .boolean), false)
abbrev B_Rf_isLetter : aw_B := (1, 24, 0, 0)
abbrev M_Rf_fails : aw_M := (RX12, cX12_fails, 2, (some .boolean), false)
abbrev B_Rf_fails : aw_B := (1, 24, 0, 0)
abbrev M_Rf_takes : aw_M := (RX12, cX12_takes, 2, (some .boolean), false)
abbrev B_Rf_takes : aw_B := (2, 45, 0, 0)
abbrev M_Rf_isFigure : aw_M := (RX12, cX12_isFigure, 1, (some .boolean), false)
abbrev B_Rf_isFigure : aw_B := (1, 24, 0, 0)
abbrev M_Rf_readDigits : aw_M := (RX12, cX12_readDigits, 3, (some .boolean), false)
abbrev B_Rf_readDigits : aw_B := (2, 45, 0, 0)
abbrev M_Rf_readA : aw_M := (RX12, cX12_readA, 1, (some .boolean), false)
abbrev B_Rf_readA : aw_B := (3, 67, 0, 0)
abbrev M_Rf_isSign : aw_M := (RX12, cX12_isSign, 1, (some .boolean), false)
abbrev B_Rf_isSign : aw_B := (1, 24, 0, 0)
abbrev M_Rf_findExpression : aw_M := (RX12, cX12_findExpression, 5, (some .int), false)
abbrev B_Rf_findExpression : aw_B := (2, 45, 0, 0)
abbrev M_Rf_readWorth : aw_M := (RX12, cX12_readWorth, 6, (some .boolean), false)
abbrev B_Rf_readWorth : aw_B := (4, 87, 0, 0)
abbrev M_Rf_readStatement : aw_M := (RX12, cX12_readStatement, 3, (some .boolean), false)
abbrev B_Rf_readStatement : aw_B := (5, 112, 0, 0)
abbrev M_Rf_readNumber : aw_M := (RX12, cX12_readNumber, 4, (some .boolean), false)
abbrev B_Rf_readNumber : aw_B := (3, 67, 0, 0)
abbrev M_Rf_readEnd : aw_M := (RX12, cX12_readEnd, 3, (some .boolean), false)
abbrev B_Rf_readEnd : aw_B := (4, 90, 0, 0)
abbrev M_Rf_readBlock : aw_M := (RX12, cX12_readBlock, 1, (some .boolean), false)
abbrev B_Rf_readBlock : aw_B := (6, 134, 0, 0)
abbrev M_Rf_readProgram : aw_M := (RX12, cX12_readProgram, 2, (some .boolean), false)
abbrev B_Rf_readProgram : aw_B := (7, 154, 0, 0)
abbrev M_Rf_copyRow : aw_M := (RX12, cX12_copyRow, 4, none, false)
abbrev B_Rf_copyRow : aw_B := (1, 24, 0, 0)
abbrev M_Rf_get : aw_M := (RX12, cX12_get, 2, (some .int), false)
abbrev B_Rf_get : aw_B := (1, 24, 0, 0)
abbrev M_Rf_layCome : aw_M := (RX12, cX12_layCome, 5, none, false)
abbrev B_Rf_layCome : aw_B := (2, 45, 0, 0)
abbrev M_Rf_layNode : aw_M := (RX12, cX12_layNode, 4, none, false)
abbrev B_Rf_layNode : aw_B := (1, 24, 0, 0)
abbrev M_Rf_layEnd : aw_M := (RX12, cX12_layEnd, 4, none, false)
abbrev B_Rf_layEnd : aw_B := (2, 45, 0, 0)
abbrev M_Rf_layNodes : aw_M := (RX12, cX12_layNodes, 3, none, false)
abbrev B_Rf_layNodes : aw_B := (3, 68, 0, 0)
abbrev M_Rf_countCome : aw_M := (RX12, cX12_countCome, 2, none, false)
abbrev B_Rf_countCome : aw_B := (1, 24, 0, 0)
abbrev M_Rf_split : aw_M := (RX12, cX12_split, 4, none, false)
abbrev B_Rf_split : aw_B := (2, 47, 0, 0)
abbrev M_Rf_isLast : aw_M := (RX12, cX12_isLast, 2, (some .boolean), false)
abbrev B_Rf_isLast : aw_B := (1, 24, 0, 0)
abbrev M_Rf_areAllLeading : aw_M := (RX12, cX12_areAllLeading, 3, (some .boolean), false)
abbrev B_Rf_areAllLeading : aw_B := (2, 45, 0, 0)
abbrev M_Rf_expressionOf : aw_M := (RX12, cX12_expressionOf, 2, (some .int), false)
abbrev B_Rf_expressionOf : aw_B := (2, 45, 0, 0)
abbrev M_Rf_doesUse : aw_M := (RX12, cX12_doesUse, 3, (some .boolean), false)
abbrev B_Rf_doesUse : aw_B := (3, 66, 0, 0)
abbrev M_Rf_cell : aw_M := (RX12, cX12_cell, 3, (some .int), false)
abbrev B_Rf_cell : aw_B := (1, 24, 0, 0)
abbrev M_Rf_set : aw_M := (RX12, cX12_set, 5, none, false)
abbrev B_Rf_set : aw_B := (2, 46, 0, 0)
abbrev M_Rf_changed : aw_M := (RX12, cX12_changed, 2, (some .int), false)
abbrev B_Rf_changed : aw_B := (2, 45, 0, 0)
abbrev M_Rf_isRisky : aw_M := (RX12, cX12_isRisky, 2, (some .boolean), false)
abbrev B_Rf_isRisky : aw_B := (2, 45, 0, 0)
abbrev M_Rf_doesKeep : aw_M := (RX12, cX12_doesKeep, 5, (some .boolean), false)
abbrev B_Rf_doesKeep : aw_B := (3, 66, 0, 0)
abbrev M_Rf_so : aw_M := (RX12, cX12_so, 4, (some .boolean), false)
abbrev B_Rf_so : aw_B := (2, 46, 0, 0)
abbrev M_Rf_staysAhead : aw_M := (RX12, cX12_staysAhead, 7, (some .boolean), false)
abbrev B_Rf_staysAhead : aw_B := (3, 69, 0, 0)
abbrev M_Rf_layAhead : aw_M := (RX12, cX12_layAhead, 5, none, false)
abbrev B_Rf_layAhead : aw_B := (4, 95, 0, 0)
abbrev M_Rf_lets : aw_M := (RX12, cX12_lets, 4, (some .boolean), false)
abbrev B_Rf_lets : aw_B := (3, 69, 0, 0)
abbrev M_Rf_layBehind : aw_M := (RX12, cX12_layBehind, 6, none, false)
abbrev B_Rf_layBehind : aw_B := (4, 92, 0, 0)
abbrev M_Rf_layEarly : aw_M := (RX12, cX12_layEarly, 5, none, false)
abbrev B_Rf_layEarly : aw_B := (3, 70, 0, 0)
abbrev M_Rf_layLate : aw_M := (RX12, cX12_layLate, 5, none, false)
abbrev B_Rf_layLate : aw_B := (3, 70, 0, 0)
abbrev M_Rf_at : aw_M := (RX12, cX12_at, 4, (some .int), false)
abbrev B_Rf_at : aw_B := (1, 24, 0, 0)
abbrev M_Rf_layAlive : aw_M := (RX12, cX12_layAlive, 6, none, false)
abbrev B_Rf_layAlive : aw_B := (2, 47, 0, 0)
abbrev M_Rf_layFacts : aw_M := (RX12, cX12_layFacts, 5, none, false)
abbrev B_Rf_layFacts : aw_B := (5, 119, 0, 0)
abbrev M_Rf_bitOf : aw_M := (RX12, cX12_bitOf, 1, (some .int), false)
abbrev B_Rf_bitOf : aw_B := (1, 24, 0, 0)
abbrev M_Rf_reads : aw_M := (RX12, cX12_reads, 4, (some .int), false)
abbrev B_Rf_reads : aw_B := (3, 66, 0, 0)
abbrev M_Rf_liveBehind : aw_M := (RX12, cX12_liveBehind, 4, (some .int), false)
abbrev B_Rf_liveBehind : aw_B := (1, 24, 0, 0)
abbrev M_Rf_layLive : aw_M := (RX12, cX12_layLive, 5, none, false)
abbrev B_Rf_layLive : aw_B := (4, 89, 0, 0)
abbrev M_Rf_layOver : aw_M := (RX12, cX12_layOver, 4, none, false)
abbrev B_Rf_layOver : aw_B := (1, 24, 0, 0)
abbrev M_Rf_isOver : aw_M := (RX12, cX12_isOver, 3, (some .boolean), false)
abbrev B_Rf_isOver : aw_B := (1, 24, 0, 0)
abbrev M_Rf_isHead : aw_M := (RX12, cX12_isHead, 3, (some .boolean), false)
abbrev B_Rf_isHead : aw_B := (2, 46, 0, 0)
abbrev M_Rf_layComing : aw_M := (RX12, cX12_layComing, 4, none, false)
abbrev B_Rf_layComing : aw_B := (2, 46, 0, 0)
abbrev M_Rf_layDeep : aw_M := (RX12, cX12_layDeep, 3, none, false)
abbrev B_Rf_layDeep : aw_B := (3, 69, 0, 0)
abbrev M_Rf_lay : aw_M := (RX12, cX12_lay, 2, none, false)
abbrev B_Rf_lay : aw_B := (6, 143, 0, 0)
abbrev M_Rf_program : aw_M := (RX12, cX12_program, 2, (some .int), false)
abbrev B_Rf_program : aw_B := (8, 175, 0, 0)
abbrev M_Rf_fault : aw_M := (RX12, cX12_fault, 1, (some .int), false)
abbrev B_Rf_fault : aw_B := (1, 24, 0, 0)
abbrev M_Rf_edges : aw_M := (RX12, cX12_edges, 3, (some .int), false)
abbrev B_Rf_edges : aw_B := (1, 24, 0, 0)
abbrev M_Rf_countNodes : aw_M := (RX12, cX12_countNodes, 4, (some .int), false)
abbrev B_Rf_countNodes : aw_B := (2, 45, 0, 0)
abbrev M_Rf_is : aw_M := (RX12, cX12_is, 2, (some .int), false)
abbrev B_Rf_is : aw_B := (3, 68, 0, 0)
abbrev M_Rf_isNode : aw_M := (RX12, cX12_isNode, 2, (some .boolean), false)
abbrev B_Rf_isNode : aw_B := (2, 46, 0, 0)
abbrev M_Rf_letterOf : aw_M := (RX12, cX12_letterOf, 2, (some .int), false)
abbrev B_Rf_letterOf : aw_B := (3, 66, 0, 0)
abbrev M_Rf_node : aw_M := (RX12, cX12_node, 3, (some .int), false)
abbrev B_Rf_node : aw_B := (4, 87, 0, 0)
abbrev M_Rf_risky : aw_M := (RX12, cX12_risky, 3, (some .int), false)
abbrev B_Rf_risky : aw_B := (3, 66, 0, 0)
abbrev M_Rf_isExpression : aw_M := (RX12, cX12_isExpression, 2, (some .boolean), false)
abbrev B_Rf_isExpression : aw_B := (2, 46, 0, 0)
abbrev M_Rf_fact : aw_M := (RX12, cX12_fact, 4, (some .int), false)
abbrev B_Rf_fact : aw_B := (3, 69, 0, 0)
abbrev M_Rf_isHow : aw_M := (RX12, cX12_isHow, 1, (some .boolean), false)
abbrev B_Rf_isHow : aw_B := (2, 46, 0, 0)
abbrev M_Rf_placed : aw_M := (RX12, cX12_placed, 5, (some .int), false)
abbrev B_Rf_placed : aw_B := (3, 67, 0, 0)
abbrev M_Rf_expression : aw_M := (RX12, cX12_expression, 5, (some .int), false)
abbrev B_Rf_expression : aw_B := (3, 69, 0, 0)
abbrev M_Rf_doClash : aw_M := (RX12, cX12_doClash, 5, (some .boolean), false)
abbrev B_Rf_doClash : aw_B := (2, 47, 0, 0)
abbrev M_Rf_clashes : aw_M := (RX12, cX12_clashes, 5, (some .int), false)
abbrev B_Rf_clashes : aw_B := (3, 71, 0, 0)
abbrev M_Rf_countPlaced : aw_M := (RX12, cX12_countPlaced, 6, (some .int), false)
abbrev B_Rf_countPlaced : aw_B := (2, 47, 0, 0)
abbrev M_Rf_placement : aw_M := (RX12, cX12_placement, 6, (some .int), false)
abbrev B_Rf_placement : aw_B := (4, 95, 0, 0)
abbrev M_Rf_layNames : aw_M := (RX12, cX12_layNames, 6, (some .int), false)
abbrev B_Rf_layNames : aw_B := (3, 72, 0, 0)
abbrev M_Rf_shared : aw_M := (RX12, cX12_shared, 4, (some .int), false)
abbrev B_Rf_shared : aw_B := (4, 97, 0, 0)
abbrev M_Rf_most : aw_M := (RX12, cX12_most, 6, (some .int), false)
abbrev B_Rf_most : aw_B := (3, 66, 0, 0)
abbrev M_Rf_letter : aw_M := (RX12, cX12_letter, 4, (some .int), false)
abbrev B_Rf_letter : aw_B := (2, 46, 0, 0)
abbrev M_Rf_canRun : aw_M := (RX12, cX12_canRun, 2, (some .boolean), false)
abbrev B_Rf_canRun : aw_B := (2, 46, 0, 0)
abbrev M_Rf_worthOf : aw_M := (RX12, cX12_worthOf, 2, (some .int), false)
abbrev B_Rf_worthOf : aw_B := (1, 24, 0, 0)
abbrev M_Rf_works : aw_M := (RX12, cX12_works, 4, (some .boolean), false)
abbrev B_Rf_works : aw_B := (2, 45, 0, 0)
abbrev M_Rf_does : aw_M := (RX12, cX12_does, 5, (some .boolean), false)
abbrev B_Rf_does : aw_B := (3, 68, 0, 0)
abbrev M_Rf_goesTo : aw_M := (RX12, cX12_goesTo, 2, (some .int), false)
abbrev B_Rf_goesTo : aw_B := (2, 45, 0, 0)
abbrev M_Rf_putsIn : aw_M := (RX12, cX12_putsIn, 4, (some .boolean), false)
abbrev B_Rf_putsIn : aw_B := (3, 68, 0, 0)
abbrev M_Rf_runNow : aw_M := (RX12, cX12_runNow, 3, none, false)
abbrev B_Rf_runNow : aw_B := (4, 92, 0, 0)
abbrev M_Rf_allWorked : aw_M := (RX12, cX12_allWorked, 3, (some .int), false)
abbrev B_Rf_allWorked : aw_B := (1, 24, 0, 0)
abbrev M_Rf_run : aw_M := (RX12, cX12_run, 4, (some .int), false)
abbrev B_Rf_run : aw_B := (5, 114, 0, 0)
abbrev M_Rf_computed : aw_M := (RX12, cX12_computed, 2, (some .int), false)
abbrev B_Rf_computed : aw_B := (3, 67, 0, 0)
abbrev M_Rf_least : aw_M := (RX12, cX12_least, 3, (some .int), false)
abbrev B_Rf_least : aw_B := (1, 24, 0, 0)
abbrev M_Rf_output : aw_M := (RX12, cX12_output, 2, (some .int), false)
abbrev B_Rf_output : aw_B := (2, 46, 0, 0)
abbrev M_Rf_behind : aw_M := (RX12, cX12_behind, 2, (some .int), false)
abbrev B_Rf_behind : aw_B := (2, 46, 0, 0)
abbrev M_Rf_alike : aw_M := (RX12, cX12_alike, 5, (some .int), false)
abbrev B_Rf_alike : aw_B := (5, 114, 0, 0)
abbrev M_Rf_has : aw_M := (RX12, cX12_has, 2, (some .boolean), false)
abbrev B_Rf_has : aw_B := (1, 24, 0, 0)
abbrev M_Rf_isRight : aw_M := (RX12, cX12_isRight, 6, (some .boolean), false)
abbrev B_Rf_isRight : aw_B := (3, 69, 0, 0)
abbrev M_Rf_overBy : aw_M := (RX12, cX12_overBy, 4, (some .int), false)
abbrev B_Rf_overBy : aw_B := (2, 47, 0, 0)
abbrev M_Rf_isFew : aw_M := (RX12, cX12_isFew, 7, (some .boolean), false)
abbrev B_Rf_isFew : aw_B := (3, 70, 0, 0)
abbrev M_Rf_lifeOf : aw_M := (RX12, cX12_lifeOf, 6, (some .int), false)
abbrev B_Rf_lifeOf : aw_B := (3, 69, 0, 0)
abbrev M_Rf_bits : aw_M := (RX12, cX12_bits, 3, (some .int), false)
abbrev B_Rf_bits : aw_B := (1, 24, 0, 0)
abbrev M_Rf_others : aw_M := (RX12, cX12_others, 9, (some .int), false)
abbrev B_Rf_others : aw_B := (4, 96, 0, 0)
abbrev M_Rf_costs : aw_M := (RX12, cX12_costs, 5, (some .int), false)
abbrev B_Rf_costs : aw_B := (3, 66, 0, 0)
abbrev M_Rf_goOn : aw_M := (RX12, cX12_goOn, 7, none, false)
abbrev B_Rf_goOn : aw_B := (1, 24, 0, 0)
abbrev M_Rf_goFurther : aw_M := (RX12, cX12_goFurther, 3, none, false)
abbrev B_Rf_goFurther : aw_B := (4, 90, 0, 0)
abbrev M_Rf_ways : aw_M := (RX12, cX12_ways, 10, (some .long), false)
abbrev B_Rf_ways : aw_B := (5, 112, 0, 0)
abbrev M_Rf_keep : aw_M := (RX12, cX12_keep, 2, (some .boolean), false)
abbrev B_Rf_keep : aw_B := (2, 47, 0, 0)
abbrev M_Rf_back : aw_M := (RX12, cX12_back, 2, (some .boolean), false)
abbrev B_Rf_back : aw_B := (7, 164, 0, 0)
abbrev M_Rf_lay1 : aw_M := (RX12, cX12_lay1, 2, none, false)
abbrev B_Rf_lay1 : aw_B := (1, 24, 0, 0)
abbrev M_Rf_writeNumber : aw_M := (RX12, cX12_writeNumber, 2, none, false)
abbrev B_Rf_writeNumber : aw_B := (2, 45, 0, 0)
abbrev M_Rf_writeName : aw_M := (RX12, cX12_writeName, 2, none, false)
abbrev B_Rf_writeName : aw_B := (3, 66, 0, 0)
abbrev M_Rf_writeA : aw_M := (RX12, cX12_writeA, 2, none, false)
abbrev B_Rf_writeA : aw_B := (3, 66, 0, 0)
abbrev M_Rf_writeExpression : aw_M := (RX12, cX12_writeExpression, 2, none, false)
abbrev B_Rf_writeExpression : aw_B := (4, 87, 0, 0)
abbrev M_Rf_writeEnd : aw_M := (RX12, cX12_writeEnd, 3, none, false)
abbrev B_Rf_writeEnd : aw_B := (3, 66, 0, 0)
abbrev M_Rf_writeStatement : aw_M := (RX12, cX12_writeStatement, 5, none, false)
abbrev B_Rf_writeStatement : aw_B := (5, 108, 0, 0)
abbrev M_Rf_write : aw_M := (RX12, cX12_write, 4, (some .int), false)
abbrev B_Rf_write : aw_B := (6, 132, 0, 0)
abbrev M_Rf_octet : aw_M := (RX12, cX12_octet, 2, (some .int), false)
abbrev B_Rf_octet : aw_B := (2, 46, 0, 0)
abbrev M_Rf_layMaybe : aw_M := (RX12, cX12_layMaybe, 5, none, false)
abbrev B_Rf_layMaybe : aw_B := (3, 69, 0, 0)
abbrev M_Rf_again : aw_M := (RX12, cX12_again, 6, (some .int), false)
abbrev B_Rf_again : aw_B := (4, 93, 0, 0)
abbrev M_Rf_live : aw_M := (RX12, cX12_live, 2, (some .int), false)
abbrev B_Rf_live : aw_B := (3, 67, 0, 0)
abbrev M_Rf_isDead : aw_M := (RX12, cX12_isDead, 3, (some .boolean), false)
abbrev B_Rf_isDead : aw_B := (3, 66, 0, 0)
abbrev M_Rf_dead : aw_M := (RX12, cX12_dead, 4, (some .int), false)
abbrev B_Rf_dead : aw_B := (4, 88, 0, 0)
abbrev M_Rf_over : aw_M := (RX12, cX12_over, 3, (some .int), false)
abbrev B_Rf_over : aw_B := (3, 67, 0, 0)
abbrev M_Rf_depth : aw_M := (RX12, cX12_depth, 2, (some .int), false)
abbrev B_Rf_depth : aw_B := (3, 67, 0, 0)
abbrev M_Rf_heads : aw_M := (RX12, cX12_heads, 1, (some .int), false)
abbrev B_Rf_heads : aw_B := (1, 24, 0, 0)
abbrev M_Rf_weight : aw_M := (RX12, cX12_weight, 8, (some .long), false)
abbrev B_Rf_weight : aw_B := (4, 90, 0, 0)
theorem yy_Mo_bitOf : aw_Y yX11_bitOf M_Mo_bitOf 2 ∧ Cond.static yX11_bitOf ∈ wsL_law := ⟨⟨aw_in_26 _ (List.mem_of_getElem? (i := 5) rfl), aw_in_0 _ (List.mem_of_getElem? (i := 2) rfl), by decide +kernel, by decide +kernel, by decide +kernel⟩, aw_in_26 _ (List.mem_of_getElem? (i := 4) rfl)⟩
theorem yy_Mo_countIn : aw_Y yX11_countIn M_Mo_countIn 2 ∧ Cond.instanceMethod yX11_countIn ∈ wsL_law ∧ Cond.selects (yX11_countIn).cls yX11_countIn yX11_countIn ∈ wsL_law := ⟨⟨aw_in_41 _ (List.mem_of_getElem? (i := 21) rfl), aw_in_0 _ (List.mem_of_getElem? (i := 2) rfl), by decide +kernel, by decide +kernel, by decide +kernel⟩, aw_in_41 _ (List.mem_of_getElem? (i := 19) rfl), aw_in_41 _ (List.mem_of_getElem? (i := 20) rfl)⟩
theorem yy_Mo_isMoved : aw_Y yX11_isMoved M_Mo_isMoved 1 ∧ Cond.instanceMethod yX11_isMoved ∈ wsL_law ∧ Cond.selects (yX11_isMoved).cls yX11_isMoved yX11_isMoved ∈ wsL_law := ⟨⟨aw_in_41 _ (List.mem_of_getElem? (i := 1) rfl), aw_in_0 _ (List.mem_of_getElem? (i := 2) rfl), by decide +kernel, by decide +kernel, by decide +kernel⟩, aw_in_40 _ (List.mem_of_getElem? (i := 23) rfl), aw_in_41 _ (List.mem_of_getElem? (i := 0) rfl)⟩
theorem yy_Mo_isProgram : aw_Y yX11_isProgram M_Mo_isProgram 0 ∧ Cond.instanceMethod yX11_isProgram ∈ wsL_law ∧ Cond.selects (yX11_isProgram).cls yX11_isProgram yX11_isProgram ∈ wsL_law := ⟨⟨aw_in_45 _ (List.mem_of_getElem? (i := 6) rfl), aw_in_0 _ (List.mem_of_getElem? (i := 2) rfl), by decide +kernel, by decide +kernel, by decide +kernel⟩, aw_in_45 _ (List.mem_of_getElem? (i := 4) rfl), aw_in_45 _ (List.mem_of_getElem? (i := 5) rfl)⟩
theorem yy_Mo_isRunnable : aw_Y yX11_isRunnable M_Mo_isRunnable 1 ∧ Cond.instanceMethod yX11_isRunnable ∈ wsL_law ∧ Cond.selects (yX11_isRunnable).cls yX11_isRunnable yX11_isRunnable ∈ wsL_law := ⟨⟨aw_in_45 _ (List.mem_of_getElem? (i := 2) rfl), aw_in_0 _ (List.mem_of_getElem? (i := 2) rfl), by decide +kernel, by decide +kernel, by decide +kernel⟩, aw_in_45 _ (List.mem_of_getElem? (i := 0) rfl), aw_in_45 _ (List.mem_of_getElem? (i := 1) rfl)⟩
theorem yy_Mo_isSoundOne : aw_Y yX11_isSoundOne M_Mo_isSoundOne 1 ∧ Cond.instanceMethod yX11_isSoundOne ∈ wsL_law ∧ Cond.selects (yX11_isSoundOne).cls yX11_isSoundOne yX11_isSoundOne ∈ wsL_law := ⟨⟨aw_in_40 _ (List.mem_of_getElem? (i := 9) rfl), aw_in_0 _ (List.mem_of_getElem? (i := 2) rfl), by decide +kernel, by decide +kernel, by decide +kernel⟩, aw_in_40 _ (List.mem_of_getElem? (i := 7) rfl), aw_in_40 _ (List.mem_of_getElem? (i := 8) rfl)⟩
theorem yy_Mo_oneIf : aw_Y yX11_oneIf M_Mo_oneIf 1 ∧ Cond.static yX11_oneIf ∈ wsL_law := ⟨⟨aw_in_18 _ (List.mem_of_getElem? (i := 0) rfl), aw_in_0 _ (List.mem_of_getElem? (i := 2) rfl), by decide +kernel, by decide +kernel, by decide +kernel⟩, aw_in_17 _ (List.mem_of_getElem? (i := 23) rfl)⟩
theorem yy_Mo_placementBy : aw_Y yX11_placementBy M_Mo_placementBy 1 ∧ Cond.instanceMethod yX11_placementBy ∈ wsL_law ∧ Cond.selects (yX11_placementBy).cls yX11_placementBy yX11_placementBy ∈ wsL_law := ⟨⟨aw_in_41 _ (List.mem_of_getElem? (i := 5) rfl), aw_in_0 _ (List.mem_of_getElem? (i := 2) rfl), by decide +kernel, by decide +kernel, by decide +kernel⟩, aw_in_41 _ (List.mem_of_getElem? (i := 3) rfl), aw_in_41 _ (List.mem_of_getElem? (i := 4) rfl)⟩
theorem yy_Mo_powerOfTen : aw_Y yX11_powerOfTen M_Mo_powerOfTen 1 ∧ Cond.static yX11_powerOfTen ∈ wsL_law := ⟨⟨aw_in_54 _ (List.mem_of_getElem? (i := 21) rfl), aw_in_0 _ (List.mem_of_getElem? (i := 2) rfl), by decide +kernel, by decide +kernel, by decide +kernel⟩, aw_in_54 _ (List.mem_of_getElem? (i := 20) rfl)⟩
theorem yy_Mo_settle : aw_Y yX11_settle M_Mo_settle 0 ∧ Cond.instanceMethod yX11_settle ∈ wsL_law ∧ Cond.selects (yX11_settle).cls yX11_settle yX11_settle ∈ wsL_law := ⟨⟨aw_in_14 _ (List.mem_of_getElem? (i := 23) rfl), aw_in_0 _ (List.mem_of_getElem? (i := 2) rfl), by decide +kernel, by decide +kernel, by decide +kernel⟩, aw_in_14 _ (List.mem_of_getElem? (i := 21) rfl), aw_in_14 _ (List.mem_of_getElem? (i := 22) rfl)⟩
theorem yy_Mo_writeAssignment : aw_Y yX11_writeAssignment M_Mo_writeAssignment 2 ∧ Cond.instanceMethod yX11_writeAssignment ∈ wsL_law ∧ Cond.selects (yX11_writeAssignment).cls yX11_writeAssignment yX11_writeAssignment ∈ wsL_law := ⟨⟨aw_in_63 _ (List.mem_of_getElem? (i := 15) rfl), aw_in_0 _ (List.mem_of_getElem? (i := 2) rfl), by decide +kernel, by decide +kernel, by decide +kernel⟩, aw_in_63 _ (List.mem_of_getElem? (i := 13) rfl), aw_in_63 _ (List.mem_of_getElem? (i := 14) rfl)⟩
theorem yy_Mo_writeEnd : aw_Y yX11_writeEnd M_Mo_writeEnd 1 ∧ Cond.instanceMethod yX11_writeEnd ∈ wsL_law ∧ Cond.selects (yX11_writeEnd).cls yX11_writeEnd yX11_writeEnd ∈ wsL_law := ⟨⟨aw_in_63 _ (List.mem_of_getElem? (i := 19) rfl), aw_in_0 _ (List.mem_of_getElem? (i := 2) rfl), by decide +kernel, by decide +kernel, by decide +kernel⟩, aw_in_63 _ (List.mem_of_getElem? (i := 17) rfl), aw_in_63 _ (List.mem_of_getElem? (i := 18) rfl)⟩
theorem yy_Mo_writeExpression : aw_Y yX11_writeExpression M_Mo_writeExpression 1 ∧ Cond.instanceMethod yX11_writeExpression ∈ wsL_law ∧ Cond.selects (yX11_writeExpression).cls yX11_writeExpression yX11_writeExpression ∈ wsL_law := ⟨⟨aw_in_63 _ (List.mem_of_getElem? (i := 2) rfl), aw_in_0 _ (List.mem_of_getElem? (i := 2) rfl), by decide +kernel, by decide +kernel, by decide +kernel⟩, aw_in_63 _ (List.mem_of_getElem? (i := 0) rfl), aw_in_63 _ (List.mem_of_getElem? (i := 1) rfl)⟩
theorem yy_Mo_writeName : aw_Y yX11_writeName M_Mo_writeName 1 ∧ Cond.instanceMethod yX11_writeName ∈ wsL_law ∧ Cond.selects (yX11_writeName).cls yX11_writeName yX11_writeName ∈ wsL_law := ⟨⟨aw_in_62 _ (List.mem_of_getElem? (i := 17) rfl), aw_in_0 _ (List.mem_of_getElem? (i := 2) rfl), by decide +kernel, by decide +kernel, by decide +kernel⟩, aw_in_62 _ (List.mem_of_getElem? (i := 15) rfl), aw_in_62 _ (List.mem_of_getElem? (i := 16) rfl)⟩
theorem yy_Mo_writeNode : aw_Y yX11_writeNode M_Mo_writeNode 2 ∧ Cond.instanceMethod yX11_writeNode ∈ wsL_law ∧ Cond.selects (yX11_writeNode).cls yX11_writeNode yX11_writeNode ∈ wsL_law := ⟨⟨aw_in_63 _ (List.mem_of_getElem? (i := 10) rfl), aw_in_0 _ (List.mem_of_getElem? (i := 2) rfl), by decide +kernel, by decide +kernel, by decide +kernel⟩, aw_in_63 _ (List.mem_of_getElem? (i := 8) rfl), aw_in_63 _ (List.mem_of_getElem? (i := 9) rfl)⟩
theorem yy_Mo_writeOperand : aw_Y yX11_writeOperand M_Mo_writeOperand 1 ∧ Cond.instanceMethod yX11_writeOperand ∈ wsL_law ∧ Cond.selects (yX11_writeOperand).cls yX11_writeOperand yX11_writeOperand ∈ wsL_law := ⟨⟨aw_in_63 _ (List.mem_of_getElem? (i := 6) rfl), aw_in_0 _ (List.mem_of_getElem? (i := 2) rfl), by decide +kernel, by decide +kernel, by decide +kernel⟩, aw_in_63 _ (List.mem_of_getElem? (i := 4) rfl), aw_in_63 _ (List.mem_of_getElem? (i := 5) rfl)⟩
theorem yy_Ex_copyFrom : aw_Y yX0_copyFrom M_Ex_copyFrom 1 ∧ Cond.instanceMethod yX0_copyFrom ∈ wsL_law ∧ Cond.selects (yX0_copyFrom).cls yX0_copyFrom yX0_copyFrom ∈ wsL_law := ⟨⟨aw_in_15 _ (List.mem_of_getElem? (i := 19) rfl), aw_in_2 _ (List.mem_of_getElem? (i := 22) rfl), by decide +kernel, by decide +kernel, by decide +kernel⟩, aw_in_15 _ (List.mem_of_getElem? (i := 17) rfl), aw_in_15 _ (List.mem_of_getElem? (i := 18) rfl)⟩
theorem yy_Ex_isOne : aw_Y yX0_isOne M_Ex_isOne 1 ∧ Cond.instanceMethod yX0_isOne ∈ wsL_law ∧ Cond.selects (yX0_isOne).cls yX0_isOne yX0_isOne ∈ wsL_law := ⟨⟨aw_in_19 _ (List.mem_of_getElem? (i := 4) rfl), aw_in_2 _ (List.mem_of_getElem? (i := 22) rfl), by decide +kernel, by decide +kernel, by decide +kernel⟩, aw_in_19 _ (List.mem_of_getElem? (i := 2) rfl), aw_in_19 _ (List.mem_of_getElem? (i := 3) rfl)⟩
theorem yy_Ex_isRisky : aw_Y yX0_isRisky M_Ex_isRisky 1 ∧ Cond.instanceMethod yX0_isRisky ∈ wsL_law ∧ Cond.selects (yX0_isRisky).cls yX0_isRisky yX0_isRisky ∈ wsL_law := ⟨⟨aw_in_20 _ (List.mem_of_getElem? (i := 1) rfl), aw_in_2 _ (List.mem_of_getElem? (i := 22) rfl), by decide +kernel, by decide +kernel, by decide +kernel⟩, aw_in_19 _ (List.mem_of_getElem? (i := 23) rfl), aw_in_20 _ (List.mem_of_getElem? (i := 0) rfl)⟩
theorem yy_Ex_letterBit : aw_Y yX0_letterBit M_Ex_letterBit 1 ∧ Cond.static yX0_letterBit ∈ wsL_law := ⟨⟨aw_in_19 _ (List.mem_of_getElem? (i := 15) rfl), aw_in_2 _ (List.mem_of_getElem? (i := 22) rfl), by decide +kernel, by decide +kernel, by decide +kernel⟩, aw_in_19 _ (List.mem_of_getElem? (i := 14) rfl)⟩
theorem yy_Ex_lettersOf : aw_Y yX0_lettersOf M_Ex_lettersOf 1 ∧ Cond.instanceMethod yX0_lettersOf ∈ wsL_law ∧ Cond.selects (yX0_lettersOf).cls yX0_lettersOf yX0_lettersOf ∈ wsL_law := ⟨⟨aw_in_19 _ (List.mem_of_getElem? (i := 19) rfl), aw_in_2 _ (List.mem_of_getElem? (i := 22) rfl), by decide +kernel, by decide +kernel, by decide +kernel⟩, aw_in_19 _ (List.mem_of_getElem? (i := 17) rfl), aw_in_19 _ (List.mem_of_getElem? (i := 18) rfl)⟩
theorem yy_Ex_numberOf : aw_Y yX0_numberOf M_Ex_numberOf 3 ∧ Cond.instanceMethod yX0_numberOf ∈ wsL_law ∧ Cond.selects (yX0_numberOf).cls yX0_numberOf yX0_numberOf ∈ wsL_law := ⟨⟨aw_in_14 _ (List.mem_of_getElem? (i := 2) rfl), aw_in_2 _ (List.mem_of_getElem? (i := 22) rfl), by decide +kernel, by decide +kernel, by decide +kernel⟩, aw_in_14 _ (List.mem_of_getElem? (i := 0) rfl), aw_in_14 _ (List.mem_of_getElem? (i := 1) rfl)⟩
theorem yy_Fa_build : aw_Y yX1_build M_Fa_build 1 ∧ Cond.instanceMethod yX1_build ∈ wsL_law ∧ Cond.selects (yX1_build).cls yX1_build yX1_build ∈ wsL_law := ⟨⟨aw_in_18 _ (List.mem_of_getElem? (i := 16) rfl), aw_in_1 _ (List.mem_of_getElem? (i := 5) rfl), by decide +kernel, by decide +kernel, by decide +kernel⟩, aw_in_18 _ (List.mem_of_getElem? (i := 14) rfl), aw_in_18 _ (List.mem_of_getElem? (i := 15) rfl)⟩
theorem yy_Fa_findAlone : aw_Y yX1_findAlone M_Fa_findAlone 1 ∧ Cond.instanceMethod yX1_findAlone ∈ wsL_law ∧ Cond.selects (yX1_findAlone).cls yX1_findAlone yX1_findAlone ∈ wsL_law := ⟨⟨aw_in_23 _ (List.mem_of_getElem? (i := 18) rfl), aw_in_1 _ (List.mem_of_getElem? (i := 5) rfl), by decide +kernel, by decide +kernel, by decide +kernel⟩, aw_in_23 _ (List.mem_of_getElem? (i := 16) rfl), aw_in_23 _ (List.mem_of_getElem? (i := 17) rfl)⟩
theorem yy_Fa_findAtHand : aw_Y yX1_findAtHand M_Fa_findAtHand 1 ∧ Cond.instanceMethod yX1_findAtHand ∈ wsL_law ∧ Cond.selects (yX1_findAtHand).cls yX1_findAtHand yX1_findAtHand ∈ wsL_law := ⟨⟨aw_in_22 _ (List.mem_of_getElem? (i := 18) rfl), aw_in_1 _ (List.mem_of_getElem? (i := 5) rfl), by decide +kernel, by decide +kernel, by decide +kernel⟩, aw_in_22 _ (List.mem_of_getElem? (i := 16) rfl), aw_in_22 _ (List.mem_of_getElem? (i := 17) rfl)⟩
theorem yy_Fa_findDelayed : aw_Y yX1_findDelayed M_Fa_findDelayed 1 ∧ Cond.instanceMethod yX1_findDelayed ∈ wsL_law ∧ Cond.selects (yX1_findDelayed).cls yX1_findDelayed yX1_findDelayed ∈ wsL_law := ⟨⟨aw_in_23 _ (List.mem_of_getElem? (i := 9) rfl), aw_in_1 _ (List.mem_of_getElem? (i := 5) rfl), by decide +kernel, by decide +kernel, by decide +kernel⟩, aw_in_23 _ (List.mem_of_getElem? (i := 7) rfl), aw_in_23 _ (List.mem_of_getElem? (i := 8) rfl)⟩
theorem yy_Fa_findEarly : aw_Y yX1_findEarly M_Fa_findEarly 1 ∧ Cond.instanceMethod yX1_findEarly ∈ wsL_law ∧ Cond.selects (yX1_findEarly).cls yX1_findEarly yX1_findEarly ∈ wsL_law := ⟨⟨aw_in_23 _ (List.mem_of_getElem? (i := 2) rfl), aw_in_1 _ (List.mem_of_getElem? (i := 5) rfl), by decide +kernel, by decide +kernel, by decide +kernel⟩, aw_in_23 _ (List.mem_of_getElem? (i := 0) rfl), aw_in_23 _ (List.mem_of_getElem? (i := 1) rfl)⟩
theorem yy_Fa_findLate : aw_Y yX1_findLate M_Fa_findLate 1 ∧ Cond.instanceMethod yX1_findLate ∈ wsL_law ∧ Cond.selects (yX1_findLate).cls yX1_findLate yX1_findLate ∈ wsL_law := ⟨⟨aw_in_23 _ (List.mem_of_getElem? (i := 13) rfl), aw_in_1 _ (List.mem_of_getElem? (i := 5) rfl), by decide +kernel, by decide +kernel, by decide +kernel⟩, aw_in_23 _ (List.mem_of_getElem? (i := 11) rfl), aw_in_23 _ (List.mem_of_getElem? (i := 12) rfl)⟩
theorem yy_Fa_findLive : aw_Y yX1_findLive M_Fa_findLive 1 ∧ Cond.instanceMethod yX1_findLive ∈ wsL_law ∧ Cond.selects (yX1_findLive).cls yX1_findLive yX1_findLive ∈ wsL_law := ⟨⟨aw_in_22 _ (List.mem_of_getElem? (i := 6) rfl), aw_in_1 _ (List.mem_of_getElem? (i := 5) rfl), by decide +kernel, by decide +kernel, by decide +kernel⟩, aw_in_22 _ (List.mem_of_getElem? (i := 4) rfl), aw_in_22 _ (List.mem_of_getElem? (i := 5) rfl)⟩
theorem yy_Fa_findMaybe : aw_Y yX1_findMaybe M_Fa_findMaybe 1 ∧ Cond.instanceMethod yX1_findMaybe ∈ wsL_law ∧ Cond.selects (yX1_findMaybe).cls yX1_findMaybe yX1_findMaybe ∈ wsL_law := ⟨⟨aw_in_22 _ (List.mem_of_getElem? (i := 22) rfl), aw_in_1 _ (List.mem_of_getElem? (i := 5) rfl), by decide +kernel, by decide +kernel, by decide +kernel⟩, aw_in_22 _ (List.mem_of_getElem? (i := 20) rfl), aw_in_22 _ (List.mem_of_getElem? (i := 21) rfl)⟩
theorem yy_Fa_findNeeded : aw_Y yX1_findNeeded M_Fa_findNeeded 1 ∧ Cond.instanceMethod yX1_findNeeded ∈ wsL_law ∧ Cond.selects (yX1_findNeeded).cls yX1_findNeeded yX1_findNeeded ∈ wsL_law := ⟨⟨aw_in_22 _ (List.mem_of_getElem? (i := 14) rfl), aw_in_1 _ (List.mem_of_getElem? (i := 5) rfl), by decide +kernel, by decide +kernel, by decide +kernel⟩, aw_in_22 _ (List.mem_of_getElem? (i := 12) rfl), aw_in_22 _ (List.mem_of_getElem? (i := 13) rfl)⟩
theorem yy_Fa_findSound : aw_Y yX1_findSound M_Fa_findSound 1 ∧ Cond.instanceMethod yX1_findSound ∈ wsL_law ∧ Cond.selects (yX1_findSound).cls yX1_findSound yX1_findSound ∈ wsL_law := ⟨⟨aw_in_20 _ (List.mem_of_getElem? (i := 8) rfl), aw_in_1 _ (List.mem_of_getElem? (i := 5) rfl), by decide +kernel, by decide +kernel, by decide +kernel⟩, aw_in_20 _ (List.mem_of_getElem? (i := 6) rfl), aw_in_20 _ (List.mem_of_getElem? (i := 7) rfl)⟩
theorem yy_Fa_hinders : aw_Y yX1_hinders M_Fa_hinders 3 ∧ Cond.static yX1_hinders ∈ wsL_law := ⟨⟨aw_in_20 _ (List.mem_of_getElem? (i := 4) rfl), aw_in_1 _ (List.mem_of_getElem? (i := 5) rfl), by decide +kernel, by decide +kernel, by decide +kernel⟩, aw_in_20 _ (List.mem_of_getElem? (i := 3) rfl)⟩
theorem yy_Fa_isDead : aw_Y yX1_isDead M_Fa_isDead 2 ∧ Cond.instanceMethod yX1_isDead ∈ wsL_law ∧ Cond.selects (yX1_isDead).cls yX1_isDead yX1_isDead ∈ wsL_law := ⟨⟨aw_in_52 _ (List.mem_of_getElem? (i := 8) rfl), aw_in_1 _ (List.mem_of_getElem? (i := 5) rfl), by decide +kernel, by decide +kernel, by decide +kernel⟩, aw_in_52 _ (List.mem_of_getElem? (i := 6) rfl), aw_in_52 _ (List.mem_of_getElem? (i := 7) rfl)⟩
theorem yy_Fa_keptAt : aw_Y yX1_keptAt M_Fa_keptAt 2 ∧ Cond.static yX1_keptAt ∈ wsL_law := ⟨⟨aw_in_19 _ (List.mem_of_getElem? (i := 7) rfl), aw_in_1 _ (List.mem_of_getElem? (i := 5) rfl), by decide +kernel, by decide +kernel, by decide +kernel⟩, aw_in_19 _ (List.mem_of_getElem? (i := 6) rfl)⟩
theorem yy_Fa_letterChangedAt : aw_Y yX1_letterChangedAt M_Fa_letterChangedAt 2 ∧ Cond.static yX1_letterChangedAt ∈ wsL_law := ⟨⟨aw_in_19 _ (List.mem_of_getElem? (i := 10) rfl), aw_in_1 _ (List.mem_of_getElem? (i := 5) rfl), by decide +kernel, by decide +kernel, by decide +kernel⟩, aw_in_19 _ (List.mem_of_getElem? (i := 9) rfl)⟩
theorem yy_Fa_lettersReadAt : aw_Y yX1_lettersReadAt M_Fa_lettersReadAt 2 ∧ Cond.static yX1_lettersReadAt ∈ wsL_law := ⟨⟨aw_in_22 _ (List.mem_of_getElem? (i := 9) rfl), aw_in_1 _ (List.mem_of_getElem? (i := 5) rfl), by decide +kernel, by decide +kernel, by decide +kernel⟩, aw_in_22 _ (List.mem_of_getElem? (i := 8) rfl)⟩
theorem yy_Fa_usedAt : aw_Y yX1_usedAt M_Fa_usedAt 2 ∧ Cond.static yX1_usedAt ∈ wsL_law := ⟨⟨aw_in_18 _ (List.mem_of_getElem? (i := 23) rfl), aw_in_1 _ (List.mem_of_getElem? (i := 5) rfl), by decide +kernel, by decide +kernel, by decide +kernel⟩, aw_in_18 _ (List.mem_of_getElem? (i := 22) rfl)⟩
theorem yy_Fl_inAll : aw_Y yX2_inAll M_Fl_inAll 5 ∧ Cond.instanceMethod yX2_inAll ∈ wsL_law ∧ Cond.selects (yX2_inAll).cls yX2_inAll yX2_inAll ∈ wsL_law := ⟨⟨aw_in_21 _ (List.mem_of_getElem? (i := 0) rfl), aw_in_4 _ (List.mem_of_getElem? (i := 13) rfl), by decide +kernel, by decide +kernel, by decide +kernel⟩, aw_in_20 _ (List.mem_of_getElem? (i := 22) rfl), aw_in_20 _ (List.mem_of_getElem? (i := 23) rfl)⟩
theorem yy_Fl_inOne : aw_Y yX2_inOne M_Fl_inOne 4 ∧ Cond.instanceMethod yX2_inOne ∈ wsL_law ∧ Cond.selects (yX2_inOne).cls yX2_inOne yX2_inOne ∈ wsL_law := ⟨⟨aw_in_21 _ (List.mem_of_getElem? (i := 22) rfl), aw_in_4 _ (List.mem_of_getElem? (i := 13) rfl), by decide +kernel, by decide +kernel, by decide +kernel⟩, aw_in_21 _ (List.mem_of_getElem? (i := 20) rfl), aw_in_21 _ (List.mem_of_getElem? (i := 21) rfl)⟩
theorem yy_Fl_side : aw_Y yX2_side M_Fl_side 3 ∧ Cond.instanceMethod yX2_side ∈ wsL_law ∧ Cond.selects (yX2_side).cls yX2_side yX2_side ∈ wsL_law := ⟨⟨aw_in_21 _ (List.mem_of_getElem? (i := 17) rfl), aw_in_4 _ (List.mem_of_getElem? (i := 13) rfl), by decide +kernel, by decide +kernel, by decide +kernel⟩, aw_in_21 _ (List.mem_of_getElem? (i := 15) rfl), aw_in_21 _ (List.mem_of_getElem? (i := 16) rfl)⟩
theorem yy_Fl_solve : aw_Y yX2_solve M_Fl_solve 5 ∧ Cond.instanceMethod yX2_solve ∈ wsL_law ∧ Cond.selects (yX2_solve).cls yX2_solve yX2_solve ∈ wsL_law := ⟨⟨aw_in_20 _ (List.mem_of_getElem? (i := 18) rfl), aw_in_4 _ (List.mem_of_getElem? (i := 13) rfl), by decide +kernel, by decide +kernel, by decide +kernel⟩, aw_in_20 _ (List.mem_of_getElem? (i := 16) rfl), aw_in_20 _ (List.mem_of_getElem? (i := 17) rfl)⟩
theorem yy_Fl_tell : aw_Y yX2_tell M_Fl_tell 5 ∧ Cond.instanceMethod yX2_tell ∈ wsL_law ∧ Cond.selects (yX2_tell).cls yX2_tell yX2_tell ∈ wsL_law := ⟨⟨aw_in_20 _ (List.mem_of_getElem? (i := 14) rfl), aw_in_4 _ (List.mem_of_getElem? (i := 13) rfl), by decide +kernel, by decide +kernel, by decide +kernel⟩, aw_in_20 _ (List.mem_of_getElem? (i := 12) rfl), aw_in_20 _ (List.mem_of_getElem? (i := 13) rfl)⟩
theorem yy_Gr_add : aw_Y yX3_add M_Gr_add 1 ∧ Cond.instanceMethod yX3_add ∈ wsL_law ∧ Cond.selects (yX3_add).cls yX3_add yX3_add ∈ wsL_law := ⟨⟨aw_in_16 _ (List.mem_of_getElem? (i := 0) rfl), aw_in_1 _ (List.mem_of_getElem? (i := 1) rfl), by decide +kernel, by decide +kernel, by decide +kernel⟩, aw_in_15 _ (List.mem_of_getElem? (i := 22) rfl), aw_in_15 _ (List.mem_of_getElem? (i := 23) rfl)⟩
theorem yy_Gr_addReached : aw_Y yX3_addReached M_Gr_addReached 1 ∧ Cond.instanceMethod yX3_addReached ∈ wsL_law ∧ Cond.selects (yX3_addReached).cls yX3_addReached yX3_addReached ∈ wsL_law := ⟨⟨aw_in_16 _ (List.mem_of_getElem? (i := 4) rfl), aw_in_1 _ (List.mem_of_getElem? (i := 1) rfl), by decide +kernel, by decide +kernel, by decide +kernel⟩, aw_in_16 _ (List.mem_of_getElem? (i := 2) rfl), aw_in_16 _ (List.mem_of_getElem? (i := 3) rfl)⟩
theorem yy_Gr_bitsIn : aw_Y yX3_bitsIn M_Gr_bitsIn 1 ∧ Cond.instanceMethod yX3_bitsIn ∈ wsL_law ∧ Cond.selects (yX3_bitsIn).cls yX3_bitsIn yX3_bitsIn ∈ wsL_law := ⟨⟨aw_in_42 _ (List.mem_of_getElem? (i := 1) rfl), aw_in_1 _ (List.mem_of_getElem? (i := 1) rfl), by decide +kernel, by decide +kernel, by decide +kernel⟩, aw_in_41 _ (List.mem_of_getElem? (i := 23) rfl), aw_in_42 _ (List.mem_of_getElem? (i := 0) rfl)⟩
theorem yy_Gr_blockBit : aw_Y yX3_blockBit M_Gr_blockBit 1 ∧ Cond.static yX3_blockBit ∈ wsL_law := ⟨⟨aw_in_16 _ (List.mem_of_getElem? (i := 15) rfl), aw_in_1 _ (List.mem_of_getElem? (i := 1) rfl), by decide +kernel, by decide +kernel, by decide +kernel⟩, aw_in_16 _ (List.mem_of_getElem? (i := 14) rfl)⟩
theorem yy_Gr_build : aw_Y yX3_build M_Gr_build 1 ∧ Cond.instanceMethod yX3_build ∈ wsL_law ∧ Cond.selects (yX3_build).cls yX3_build yX3_build ∈ wsL_law := ⟨⟨aw_in_15 _ (List.mem_of_getElem? (i := 11) rfl), aw_in_1 _ (List.mem_of_getElem? (i := 1) rfl), by decide +kernel, by decide +kernel, by decide +kernel⟩, aw_in_15 _ (List.mem_of_getElem? (i := 9) rfl), aw_in_15 _ (List.mem_of_getElem? (i := 10) rfl)⟩
theorem yy_Gr_comingTo : aw_Y yX3_comingTo M_Gr_comingTo 1 ∧ Cond.instanceMethod yX3_comingTo ∈ wsL_law ∧ Cond.selects (yX3_comingTo).cls yX3_comingTo yX3_comingTo ∈ wsL_law := ⟨⟨aw_in_18 _ (List.mem_of_getElem? (i := 8) rfl), aw_in_1 _ (List.mem_of_getElem? (i := 1) rfl), by decide +kernel, by decide +kernel, by decide +kernel⟩, aw_in_18 _ (List.mem_of_getElem? (i := 6) rfl), aw_in_18 _ (List.mem_of_getElem? (i := 7) rfl)⟩
theorem yy_Gr_countOf : aw_Y yX3_countOf M_Gr_countOf 1 ∧ Cond.instanceMethod yX3_countOf ∈ wsL_law ∧ Cond.selects (yX3_countOf).cls yX3_countOf yX3_countOf ∈ wsL_law := ⟨⟨aw_in_37 _ (List.mem_of_getElem? (i := 5) rfl), aw_in_1 _ (List.mem_of_getElem? (i := 1) rfl), by decide +kernel, by decide +kernel, by decide +kernel⟩, aw_in_37 _ (List.mem_of_getElem? (i := 3) rfl), aw_in_37 _ (List.mem_of_getElem? (i := 4) rfl)⟩
theorem yy_Gr_edges : aw_Y yX3_edges M_Gr_edges 0 ∧ Cond.instanceMethod yX3_edges ∈ wsL_law ∧ Cond.selects (yX3_edges).cls yX3_edges yX3_edges ∈ wsL_law := ⟨⟨aw_in_37 _ (List.mem_of_getElem? (i := 1) rfl), aw_in_1 _ (List.mem_of_getElem? (i := 1) rfl), by decide +kernel, by decide +kernel, by decide +kernel⟩, aw_in_36 _ (List.mem_of_getElem? (i := 23) rfl), aw_in_37 _ (List.mem_of_getElem? (i := 0) rfl)⟩
theorem yy_Gr_edgesFrom : aw_Y yX3_edgesFrom M_Gr_edgesFrom 1 ∧ Cond.instanceMethod yX3_edgesFrom ∈ wsL_law ∧ Cond.selects (yX3_edgesFrom).cls yX3_edgesFrom yX3_edgesFrom ∈ wsL_law := ⟨⟨aw_in_17 _ (List.mem_of_getElem? (i := 18) rfl), aw_in_1 _ (List.mem_of_getElem? (i := 1) rfl), by decide +kernel, by decide +kernel, by decide +kernel⟩, aw_in_17 _ (List.mem_of_getElem? (i := 16) rfl), aw_in_17 _ (List.mem_of_getElem? (i := 17) rfl)⟩
theorem yy_Gr_edgesTo : aw_Y yX3_edgesTo M_Gr_edgesTo 1 ∧ Cond.instanceMethod yX3_edgesTo ∈ wsL_law ∧ Cond.selects (yX3_edgesTo).cls yX3_edgesTo yX3_edgesTo ∈ wsL_law := ⟨⟨aw_in_21 _ (List.mem_of_getElem? (i := 5) rfl), aw_in_1 _ (List.mem_of_getElem? (i := 1) rfl), by decide +kernel, by decide +kernel, by decide +kernel⟩, aw_in_21 _ (List.mem_of_getElem? (i := 3) rfl), aw_in_21 _ (List.mem_of_getElem? (i := 4) rfl)⟩
theorem yy_Gr_fill : aw_Y yX3_fill M_Gr_fill 3 ∧ Cond.instanceMethod yX3_fill ∈ wsL_law ∧ Cond.selects (yX3_fill).cls yX3_fill yX3_fill ∈ wsL_law := ⟨⟨aw_in_16 _ (List.mem_of_getElem? (i := 23) rfl), aw_in_1 _ (List.mem_of_getElem? (i := 1) rfl), by decide +kernel, by decide +kernel, by decide +kernel⟩, aw_in_16 _ (List.mem_of_getElem? (i := 21) rfl), aw_in_16 _ (List.mem_of_getElem? (i := 22) rfl)⟩
theorem yy_Gr_isNode : aw_Y yX3_isNode M_Gr_isNode 1 ∧ Cond.instanceMethod yX3_isNode ∈ wsL_law ∧ Cond.selects (yX3_isNode).cls yX3_isNode yX3_isNode ∈ wsL_law := ⟨⟨aw_in_17 _ (List.mem_of_getElem? (i := 22) rfl), aw_in_1 _ (List.mem_of_getElem? (i := 1) rfl), by decide +kernel, by decide +kernel, by decide +kernel⟩, aw_in_17 _ (List.mem_of_getElem? (i := 20) rfl), aw_in_17 _ (List.mem_of_getElem? (i := 21) rfl)⟩
theorem yy_Gr_joinNodes : aw_Y yX3_joinNodes M_Gr_joinNodes 0 ∧ Cond.instanceMethod yX3_joinNodes ∈ wsL_law ∧ Cond.selects (yX3_joinNodes).cls yX3_joinNodes yX3_joinNodes ∈ wsL_law := ⟨⟨aw_in_17 _ (List.mem_of_getElem? (i := 6) rfl), aw_in_1 _ (List.mem_of_getElem? (i := 1) rfl), by decide +kernel, by decide +kernel, by decide +kernel⟩, aw_in_17 _ (List.mem_of_getElem? (i := 4) rfl), aw_in_17 _ (List.mem_of_getElem? (i := 5) rfl)⟩
theorem yy_Gr_kthSource : aw_Y yX3_kthSource M_Gr_kthSource 2 ∧ Cond.instanceMethod yX3_kthSource ∈ wsL_law ∧ Cond.selects (yX3_kthSource).cls yX3_kthSource yX3_kthSource ∈ wsL_law := ⟨⟨aw_in_21 _ (List.mem_of_getElem? (i := 13) rfl), aw_in_1 _ (List.mem_of_getElem? (i := 1) rfl), by decide +kernel, by decide +kernel, by decide +kernel⟩, aw_in_21 _ (List.mem_of_getElem? (i := 11) rfl), aw_in_21 _ (List.mem_of_getElem? (i := 12) rfl)⟩
theorem yy_Gr_kthTarget : aw_Y yX3_kthTarget M_Gr_kthTarget 2 ∧ Cond.instanceMethod yX3_kthTarget ∈ wsL_law ∧ Cond.selects (yX3_kthTarget).cls yX3_kthTarget yX3_kthTarget ∈ wsL_law := ⟨⟨aw_in_21 _ (List.mem_of_getElem? (i := 9) rfl), aw_in_1 _ (List.mem_of_getElem? (i := 1) rfl), by decide +kernel, by decide +kernel, by decide +kernel⟩, aw_in_21 _ (List.mem_of_getElem? (i := 7) rfl), aw_in_21 _ (List.mem_of_getElem? (i := 8) rfl)⟩
theorem yy_Gr_listFrom : aw_Y yX3_listFrom M_Gr_listFrom 0 ∧ Cond.instanceMethod yX3_listFrom ∈ wsL_law ∧ Cond.selects (yX3_listFrom).cls yX3_listFrom yX3_listFrom ∈ wsL_law := ⟨⟨aw_in_18 _ (List.mem_of_getElem? (i := 12) rfl), aw_in_1 _ (List.mem_of_getElem? (i := 1) rfl), by decide +kernel, by decide +kernel, by decide +kernel⟩, aw_in_18 _ (List.mem_of_getElem? (i := 10) rfl), aw_in_18 _ (List.mem_of_getElem? (i := 11) rfl)⟩
theorem yy_Gr_nodesWith : aw_Y yX3_nodesWith M_Gr_nodesWith 2 ∧ Cond.instanceMethod yX3_nodesWith ∈ wsL_law ∧ Cond.selects (yX3_nodesWith).cls yX3_nodesWith yX3_nodesWith ∈ wsL_law := ⟨⟨aw_in_22 _ (List.mem_of_getElem? (i := 2) rfl), aw_in_1 _ (List.mem_of_getElem? (i := 1) rfl), by decide +kernel, by decide +kernel, by decide +kernel⟩, aw_in_22 _ (List.mem_of_getElem? (i := 0) rfl), aw_in_22 _ (List.mem_of_getElem? (i := 1) rfl)⟩
theorem yy_Gr_reachedBlocks : aw_Y yX3_reachedBlocks M_Gr_reachedBlocks 1 ∧ Cond.static yX3_reachedBlocks ∈ wsL_law := ⟨⟨aw_in_16 _ (List.mem_of_getElem? (i := 10) rfl), aw_in_1 _ (List.mem_of_getElem? (i := 1) rfl), by decide +kernel, by decide +kernel, by decide +kernel⟩, aw_in_16 _ (List.mem_of_getElem? (i := 9) rfl)⟩
theorem yy_Gr_splitEdges : aw_Y yX3_splitEdges M_Gr_splitEdges 0 ∧ Cond.instanceMethod yX3_splitEdges ∈ wsL_law ∧ Cond.selects (yX3_splitEdges).cls yX3_splitEdges yX3_splitEdges ∈ wsL_law := ⟨⟨aw_in_17 _ (List.mem_of_getElem? (i := 14) rfl), aw_in_1 _ (List.mem_of_getElem? (i := 1) rfl), by decide +kernel, by decide +kernel, by decide +kernel⟩, aw_in_17 _ (List.mem_of_getElem? (i := 12) rfl), aw_in_17 _ (List.mem_of_getElem? (i := 13) rfl)⟩
theorem yy_Gr_splitIfOthersCome : aw_Y yX3_splitIfOthersCome M_Gr_splitIfOthersCome 1 ∧ Cond.instanceMethod yX3_splitIfOthersCome ∈ wsL_law ∧ Cond.selects (yX3_splitIfOthersCome).cls yX3_splitIfOthersCome yX3_splitIfOthersCome ∈ wsL_law := ⟨⟨aw_in_18 _ (List.mem_of_getElem? (i := 4) rfl), aw_in_1 _ (List.mem_of_getElem? (i := 1) rfl), by decide +kernel, by decide +kernel, by decide +kernel⟩, aw_in_18 _ (List.mem_of_getElem? (i := 2) rfl), aw_in_18 _ (List.mem_of_getElem? (i := 3) rfl)⟩
theorem yy_Gr_startOf : aw_Y yX3_startOf M_Gr_startOf 1 ∧ Cond.instanceMethod yX3_startOf ∈ wsL_law ∧ Cond.selects (yX3_startOf).cls yX3_startOf yX3_startOf ∈ wsL_law := ⟨⟨aw_in_17 _ (List.mem_of_getElem? (i := 10) rfl), aw_in_1 _ (List.mem_of_getElem? (i := 1) rfl), by decide +kernel, by decide +kernel, by decide +kernel⟩, aw_in_17 _ (List.mem_of_getElem? (i := 8) rfl), aw_in_17 _ (List.mem_of_getElem? (i := 9) rfl)⟩
theorem yy_Lo_addLoop : aw_Y yX4_addLoop M_Lo_addLoop 2 ∧ Cond.instanceMethod yX4_addLoop ∈ wsL_law ∧ Cond.selects (yX4_addLoop).cls yX4_addLoop yX4_addLoop ∈ wsL_law := ⟨⟨aw_in_25 _ (List.mem_of_getElem? (i := 4) rfl), aw_in_1 _ (List.mem_of_getElem? (i := 9) rfl), by decide +kernel, by decide +kernel, by decide +kernel⟩, aw_in_25 _ (List.mem_of_getElem? (i := 2) rfl), aw_in_25 _ (List.mem_of_getElem? (i := 3) rfl)⟩
theorem yy_Lo_build : aw_Y yX4_build M_Lo_build 1 ∧ Cond.instanceMethod yX4_build ∈ wsL_law ∧ Cond.selects (yX4_build).cls yX4_build yX4_build ∈ wsL_law := ⟨⟨aw_in_23 _ (List.mem_of_getElem? (i := 22) rfl), aw_in_1 _ (List.mem_of_getElem? (i := 9) rfl), by decide +kernel, by decide +kernel, by decide +kernel⟩, aw_in_23 _ (List.mem_of_getElem? (i := 20) rfl), aw_in_23 _ (List.mem_of_getElem? (i := 21) rfl)⟩
theorem yy_Lo_findOver : aw_Y yX4_findOver M_Lo_findOver 1 ∧ Cond.instanceMethod yX4_findOver ∈ wsL_law ∧ Cond.selects (yX4_findOver).cls yX4_findOver yX4_findOver ∈ wsL_law := ⟨⟨aw_in_24 _ (List.mem_of_getElem? (i := 4) rfl), aw_in_1 _ (List.mem_of_getElem? (i := 9) rfl), by decide +kernel, by decide +kernel, by decide +kernel⟩, aw_in_24 _ (List.mem_of_getElem? (i := 2) rfl), aw_in_24 _ (List.mem_of_getElem? (i := 3) rfl)⟩
theorem yy_Lo_isHead : aw_Y yX4_isHead M_Lo_isHead 2 ∧ Cond.instanceMethod yX4_isHead ∈ wsL_law ∧ Cond.selects (yX4_isHead).cls yX4_isHead yX4_isHead ∈ wsL_law := ⟨⟨aw_in_24 _ (List.mem_of_getElem? (i := 20) rfl), aw_in_1 _ (List.mem_of_getElem? (i := 9) rfl), by decide +kernel, by decide +kernel, by decide +kernel⟩, aw_in_24 _ (List.mem_of_getElem? (i := 18) rfl), aw_in_24 _ (List.mem_of_getElem? (i := 19) rfl)⟩
theorem yy_Lo_isOver : aw_Y yX4_isOver M_Lo_isOver 2 ∧ Cond.instanceMethod yX4_isOver ∈ wsL_law ∧ Cond.selects (yX4_isOver).cls yX4_isOver yX4_isOver ∈ wsL_law := ⟨⟨aw_in_25 _ (List.mem_of_getElem? (i := 0) rfl), aw_in_1 _ (List.mem_of_getElem? (i := 9) rfl), by decide +kernel, by decide +kernel, by decide +kernel⟩, aw_in_24 _ (List.mem_of_getElem? (i := 22) rfl), aw_in_24 _ (List.mem_of_getElem? (i := 23) rfl)⟩
theorem yy_Lo_leadsInside : aw_Y yX4_leadsInside M_Lo_leadsInside 2 ∧ Cond.instanceMethod yX4_leadsInside ∈ wsL_law ∧ Cond.selects (yX4_leadsInside).cls yX4_leadsInside yX4_leadsInside ∈ wsL_law := ⟨⟨aw_in_25 _ (List.mem_of_getElem? (i := 8) rfl), aw_in_1 _ (List.mem_of_getElem? (i := 9) rfl), by decide +kernel, by decide +kernel, by decide +kernel⟩, aw_in_25 _ (List.mem_of_getElem? (i := 6) rfl), aw_in_25 _ (List.mem_of_getElem? (i := 7) rfl)⟩
theorem yy_Lo_narrowsAt : aw_Y yX4_narrowsAt M_Lo_narrowsAt 2 ∧ Cond.instanceMethod yX4_narrowsAt ∈ wsL_law ∧ Cond.selects (yX4_narrowsAt).cls yX4_narrowsAt yX4_narrowsAt ∈ wsL_law := ⟨⟨aw_in_24 _ (List.mem_of_getElem? (i := 12) rfl), aw_in_1 _ (List.mem_of_getElem? (i := 9) rfl), by decide +kernel, by decide +kernel, by decide +kernel⟩, aw_in_24 _ (List.mem_of_getElem? (i := 10) rfl), aw_in_24 _ (List.mem_of_getElem? (i := 11) rfl)⟩
theorem yy_Ot_answer : aw_Y yX5_answer M_Ot_answer 4 ∧ Cond.instanceMethod yX5_answer ∈ wsL_law ∧ Cond.selects (yX5_answer).cls yX5_answer yX5_answer ∈ wsL_law := ⟨⟨aw_in_55 _ (List.mem_of_getElem? (i := 16) rfl), aw_in_2 _ (List.mem_of_getElem? (i := 7) rfl), by decide +kernel, by decide +kernel, by decide +kernel⟩, aw_in_55 _ (List.mem_of_getElem? (i := 14) rfl), aw_in_55 _ (List.mem_of_getElem? (i := 15) rfl)⟩
theorem yy_Ot_carry : aw_Y yX5_carry M_Ot_carry 3 ∧ Cond.instanceMethod yX5_carry ∈ wsL_law ∧ Cond.selects (yX5_carry).cls yX5_carry yX5_carry ∈ wsL_law := ⟨⟨aw_in_57 _ (List.mem_of_getElem? (i := 19) rfl), aw_in_2 _ (List.mem_of_getElem? (i := 7) rfl), by decide +kernel, by decide +kernel, by decide +kernel⟩, aw_in_57 _ (List.mem_of_getElem? (i := 17) rfl), aw_in_57 _ (List.mem_of_getElem? (i := 18) rfl)⟩
theorem yy_Ot_column : aw_Y yX5_column M_Ot_column 2 ∧ Cond.instanceMethod yX5_column ∈ wsL_law ∧ Cond.selects (yX5_column).cls yX5_column yX5_column ∈ wsL_law := ⟨⟨aw_in_56 _ (List.mem_of_getElem? (i := 22) rfl), aw_in_2 _ (List.mem_of_getElem? (i := 7) rfl), by decide +kernel, by decide +kernel, by decide +kernel⟩, aw_in_56 _ (List.mem_of_getElem? (i := 20) rfl), aw_in_56 _ (List.mem_of_getElem? (i := 21) rfl)⟩
theorem yy_Ot_endsAhead : aw_Y yX5_endsAhead M_Ot_endsAhead 0 ∧ Cond.instanceMethod yX5_endsAhead ∈ wsL_law ∧ Cond.selects (yX5_endsAhead).cls yX5_endsAhead yX5_endsAhead ∈ wsL_law := ⟨⟨aw_in_57 _ (List.mem_of_getElem? (i := 23) rfl), aw_in_2 _ (List.mem_of_getElem? (i := 7) rfl), by decide +kernel, by decide +kernel, by decide +kernel⟩, aw_in_57 _ (List.mem_of_getElem? (i := 21) rfl), aw_in_57 _ (List.mem_of_getElem? (i := 22) rfl)⟩
theorem yy_Ot_forget : aw_Y yX5_forget M_Ot_forget 0 ∧ Cond.instanceMethod yX5_forget ∈ wsL_law ∧ Cond.selects (yX5_forget).cls yX5_forget yX5_forget ∈ wsL_law := ⟨⟨aw_in_26 _ (List.mem_of_getElem? (i := 23) rfl), aw_in_2 _ (List.mem_of_getElem? (i := 7) rfl), by decide +kernel, by decide +kernel, by decide +kernel⟩, aw_in_26 _ (List.mem_of_getElem? (i := 21) rfl), aw_in_26 _ (List.mem_of_getElem? (i := 22) rfl)⟩
theorem yy_Ot_gain : aw_Y yX5_gain M_Ot_gain 2 ∧ Cond.instanceMethod yX5_gain ∈ wsL_law ∧ Cond.selects (yX5_gain).cls yX5_gain yX5_gain ∈ wsL_law := ⟨⟨aw_in_57 _ (List.mem_of_getElem? (i := 14) rfl), aw_in_2 _ (List.mem_of_getElem? (i := 7) rfl), by decide +kernel, by decide +kernel, by decide +kernel⟩, aw_in_57 _ (List.mem_of_getElem? (i := 12) rfl), aw_in_57 _ (List.mem_of_getElem? (i := 13) rfl)⟩
theorem yy_Ot_isFew : aw_Y yX5_isFew M_Ot_isFew 1 ∧ Cond.instanceMethod yX5_isFew ∈ wsL_law ∧ Cond.selects (yX5_isFew).cls yX5_isFew yX5_isFew ∈ wsL_law := ⟨⟨aw_in_57 _ (List.mem_of_getElem? (i := 10) rfl), aw_in_2 _ (List.mem_of_getElem? (i := 7) rfl), by decide +kernel, by decide +kernel, by decide +kernel⟩, aw_in_57 _ (List.mem_of_getElem? (i := 8) rfl), aw_in_57 _ (List.mem_of_getElem? (i := 9) rfl)⟩
theorem yy_Ot_isRight : aw_Y yX5_isRight M_Ot_isRight 1 ∧ Cond.instanceMethod yX5_isRight ∈ wsL_law ∧ Cond.selects (yX5_isRight).cls yX5_isRight yX5_isRight ∈ wsL_law := ⟨⟨aw_in_57 _ (List.mem_of_getElem? (i := 6) rfl), aw_in_2 _ (List.mem_of_getElem? (i := 7) rfl), by decide +kernel, by decide +kernel, by decide +kernel⟩, aw_in_57 _ (List.mem_of_getElem? (i := 4) rfl), aw_in_57 _ (List.mem_of_getElem? (i := 5) rfl)⟩
theorem yy_Ot_lesser : aw_Y yX5_lesser M_Ot_lesser 2 ∧ Cond.static yX5_lesser ∈ wsL_law := ⟨⟨aw_in_58 _ (List.mem_of_getElem? (i := 6) rfl), aw_in_2 _ (List.mem_of_getElem? (i := 7) rfl), by decide +kernel, by decide +kernel, by decide +kernel⟩, aw_in_58 _ (List.mem_of_getElem? (i := 5) rfl)⟩
theorem yy_Ot_lifeOf : aw_Y yX5_lifeOf M_Ot_lifeOf 1 ∧ Cond.instanceMethod yX5_lifeOf ∈ wsL_law ∧ Cond.selects (yX5_lifeOf).cls yX5_lifeOf yX5_lifeOf ∈ wsL_law := ⟨⟨aw_in_58 _ (List.mem_of_getElem? (i := 3) rfl), aw_in_2 _ (List.mem_of_getElem? (i := 7) rfl), by decide +kernel, by decide +kernel, by decide +kernel⟩, aw_in_58 _ (List.mem_of_getElem? (i := 1) rfl), aw_in_58 _ (List.mem_of_getElem? (i := 2) rfl)⟩
theorem yy_Ot_nodeBit : aw_Y yX5_nodeBit M_Ot_nodeBit 1 ∧ Cond.instanceMethod yX5_nodeBit ∈ wsL_law ∧ Cond.selects (yX5_nodeBit).cls yX5_nodeBit yX5_nodeBit ∈ wsL_law := ⟨⟨aw_in_56 _ (List.mem_of_getElem? (i := 6) rfl), aw_in_2 _ (List.mem_of_getElem? (i := 7) rfl), by decide +kernel, by decide +kernel, by decide +kernel⟩, aw_in_56 _ (List.mem_of_getElem? (i := 4) rfl), aw_in_56 _ (List.mem_of_getElem? (i := 5) rfl)⟩
theorem yy_Ot_takeFacts : aw_Y yX5_takeFacts M_Ot_takeFacts 2 ∧ Cond.instanceMethod yX5_takeFacts ∈ wsL_law ∧ Cond.selects (yX5_takeFacts).cls yX5_takeFacts yX5_takeFacts ∈ wsL_law := ⟨⟨aw_in_56 _ (List.mem_of_getElem? (i := 10) rfl), aw_in_2 _ (List.mem_of_getElem? (i := 7) rfl), by decide +kernel, by decide +kernel, by decide +kernel⟩, aw_in_56 _ (List.mem_of_getElem? (i := 8) rfl), aw_in_56 _ (List.mem_of_getElem? (i := 9) rfl)⟩
theorem yy_Ot_takeGraph : aw_Y yX5_takeGraph M_Ot_takeGraph 1 ∧ Cond.instanceMethod yX5_takeGraph ∈ wsL_law ∧ Cond.selects (yX5_takeGraph).cls yX5_takeGraph yX5_takeGraph ∈ wsL_law := ⟨⟨aw_in_55 _ (List.mem_of_getElem? (i := 21) rfl), aw_in_2 _ (List.mem_of_getElem? (i := 7) rfl), by decide +kernel, by decide +kernel, by decide +kernel⟩, aw_in_55 _ (List.mem_of_getElem? (i := 19) rfl), aw_in_55 _ (List.mem_of_getElem? (i := 20) rfl)⟩
theorem yy_Ot_tryAll : aw_Y yX5_tryAll M_Ot_tryAll 1 ∧ Cond.instanceMethod yX5_tryAll ∈ wsL_law ∧ Cond.selects (yX5_tryAll).cls yX5_tryAll yX5_tryAll ∈ wsL_law := ⟨⟨aw_in_57 _ (List.mem_of_getElem? (i := 2) rfl), aw_in_2 _ (List.mem_of_getElem? (i := 7) rfl), by decide +kernel, by decide +kernel, by decide +kernel⟩, aw_in_57 _ (List.mem_of_getElem? (i := 0) rfl), aw_in_57 _ (List.mem_of_getElem? (i := 1) rfl)⟩
theorem yy_Pl_build : aw_Y yX6_build M_Pl_build 2 ∧ Cond.instanceMethod yX6_build ∈ wsL_law ∧ Cond.selects (yX6_build).cls yX6_build yX6_build ∈ wsL_law := ⟨⟨aw_in_25 _ (List.mem_of_getElem? (i := 18) rfl), aw_in_1 _ (List.mem_of_getElem? (i := 13) rfl), by decide +kernel, by decide +kernel, by decide +kernel⟩, aw_in_25 _ (List.mem_of_getElem? (i := 16) rfl), aw_in_25 _ (List.mem_of_getElem? (i := 17) rfl)⟩
theorem yy_Pl_clashingPairs : aw_Y yX6_clashingPairs M_Pl_clashingPairs 1 ∧ Cond.instanceMethod yX6_clashingPairs ∈ wsL_law ∧ Cond.selects (yX6_clashingPairs).cls yX6_clashingPairs yX6_clashingPairs ∈ wsL_law := ⟨⟨aw_in_42 _ (List.mem_of_getElem? (i := 12) rfl), aw_in_1 _ (List.mem_of_getElem? (i := 13) rfl), by decide +kernel, by decide +kernel, by decide +kernel⟩, aw_in_42 _ (List.mem_of_getElem? (i := 10) rfl), aw_in_42 _ (List.mem_of_getElem? (i := 11) rfl)⟩
theorem yy_Pl_computedAt : aw_Y yX6_computedAt M_Pl_computedAt 2 ∧ Cond.instanceMethod yX6_computedAt ∈ wsL_law ∧ Cond.selects (yX6_computedAt).cls yX6_computedAt yX6_computedAt ∈ wsL_law := ⟨⟨aw_in_54 _ (List.mem_of_getElem? (i := 17) rfl), aw_in_1 _ (List.mem_of_getElem? (i := 13) rfl), by decide +kernel, by decide +kernel, by decide +kernel⟩, aw_in_54 _ (List.mem_of_getElem? (i := 15) rfl), aw_in_54 _ (List.mem_of_getElem? (i := 16) rfl)⟩
theorem yy_Pl_findClashes : aw_Y yX6_findClashes M_Pl_findClashes 1 ∧ Cond.instanceMethod yX6_findClashes ∈ wsL_law ∧ Cond.selects (yX6_findClashes).cls yX6_findClashes yX6_findClashes ∈ wsL_law := ⟨⟨aw_in_26 _ (List.mem_of_getElem? (i := 1) rfl), aw_in_1 _ (List.mem_of_getElem? (i := 13) rfl), by decide +kernel, by decide +kernel, by decide +kernel⟩, aw_in_25 _ (List.mem_of_getElem? (i := 23) rfl), aw_in_26 _ (List.mem_of_getElem? (i := 0) rfl)⟩
theorem yy_Pl_firstFreeName : aw_Y yX6_firstFreeName M_Pl_firstFreeName 1 ∧ Cond.instanceMethod yX6_firstFreeName ∈ wsL_law ∧ Cond.selects (yX6_firstFreeName).cls yX6_firstFreeName yX6_firstFreeName ∈ wsL_law := ⟨⟨aw_in_26 _ (List.mem_of_getElem? (i := 19) rfl), aw_in_1 _ (List.mem_of_getElem? (i := 13) rfl), by decide +kernel, by decide +kernel, by decide +kernel⟩, aw_in_26 _ (List.mem_of_getElem? (i := 17) rfl), aw_in_26 _ (List.mem_of_getElem? (i := 18) rfl)⟩
theorem yy_Pl_shareNames : aw_Y yX6_shareNames M_Pl_shareNames 1 ∧ Cond.instanceMethod yX6_shareNames ∈ wsL_law ∧ Cond.selects (yX6_shareNames).cls yX6_shareNames yX6_shareNames ∈ wsL_law := ⟨⟨aw_in_26 _ (List.mem_of_getElem? (i := 9) rfl), aw_in_1 _ (List.mem_of_getElem? (i := 13) rfl), by decide +kernel, by decide +kernel, by decide +kernel⟩, aw_in_26 _ (List.mem_of_getElem? (i := 7) rfl), aw_in_26 _ (List.mem_of_getElem? (i := 8) rfl)⟩
theorem yy_Pl_tell : aw_Y yX6_tell M_Pl_tell 3 ∧ Cond.instanceMethod yX6_tell ∈ wsL_law ∧ Cond.selects (yX6_tell).cls yX6_tell yX6_tell ∈ wsL_law := ⟨⟨aw_in_25 _ (List.mem_of_getElem? (i := 14) rfl), aw_in_1 _ (List.mem_of_getElem? (i := 13) rfl), by decide +kernel, by decide +kernel, by decide +kernel⟩, aw_in_25 _ (List.mem_of_getElem? (i := 12) rfl), aw_in_25 _ (List.mem_of_getElem? (i := 13) rfl)⟩
theorem yy_Re_addLine : aw_Y yX7_addLine M_Re_addLine 1 ∧ Cond.instanceMethod yX7_addLine ∈ wsL_law ∧ Cond.selects (yX7_addLine).cls yX7_addLine yX7_addLine ∈ wsL_law := ⟨⟨aw_in_13 _ (List.mem_of_getElem? (i := 11) rfl), aw_in_0 _ (List.mem_of_getElem? (i := 21) rfl), by decide +kernel, by decide +kernel, by decide +kernel⟩, aw_in_13 _ (List.mem_of_getElem? (i := 9) rfl), aw_in_13 _ (List.mem_of_getElem? (i := 10) rfl)⟩
theorem yy_Re_addStatement : aw_Y yX7_addStatement M_Re_addStatement 4 ∧ Cond.instanceMethod yX7_addStatement ∈ wsL_law ∧ Cond.selects (yX7_addStatement).cls yX7_addStatement yX7_addStatement ∈ wsL_law := ⟨⟨aw_in_13 _ (List.mem_of_getElem? (i := 7) rfl), aw_in_0 _ (List.mem_of_getElem? (i := 21) rfl), by decide +kernel, by decide +kernel, by decide +kernel⟩, aw_in_13 _ (List.mem_of_getElem? (i := 5) rfl), aw_in_13 _ (List.mem_of_getElem? (i := 6) rfl)⟩
theorem yy_Re_faultOf : aw_Y yX7_faultOf M_Re_faultOf 1 ∧ Cond.instanceMethod yX7_faultOf ∈ wsL_law ∧ Cond.selects (yX7_faultOf).cls yX7_faultOf yX7_faultOf ∈ wsL_law := ⟨⟨aw_in_11 _ (List.mem_of_getElem? (i := 2) rfl), aw_in_0 _ (List.mem_of_getElem? (i := 21) rfl), by decide +kernel, by decide +kernel, by decide +kernel⟩, aw_in_11 _ (List.mem_of_getElem? (i := 0) rfl), aw_in_11 _ (List.mem_of_getElem? (i := 1) rfl)⟩
theorem yy_Re_findStrayNumber : aw_Y yX7_findStrayNumber M_Re_findStrayNumber 0 ∧ Cond.instanceMethod yX7_findStrayNumber ∈ wsL_law ∧ Cond.selects (yX7_findStrayNumber).cls yX7_findStrayNumber yX7_findStrayNumber ∈ wsL_law := ⟨⟨aw_in_14 _ (List.mem_of_getElem? (i := 19) rfl), aw_in_0 _ (List.mem_of_getElem? (i := 21) rfl), by decide +kernel, by decide +kernel, by decide +kernel⟩, aw_in_14 _ (List.mem_of_getElem? (i := 17) rfl), aw_in_14 _ (List.mem_of_getElem? (i := 18) rfl)⟩
theorem yy_Re_isDigit : aw_Y yX7_isDigit M_Re_isDigit 1 ∧ Cond.static yX7_isDigit ∈ wsL_law := ⟨⟨aw_in_13 _ (List.mem_of_getElem? (i := 3) rfl), aw_in_0 _ (List.mem_of_getElem? (i := 21) rfl), by decide +kernel, by decide +kernel, by decide +kernel⟩, aw_in_13 _ (List.mem_of_getElem? (i := 2) rfl)⟩
theorem yy_Re_isLetter : aw_Y yX7_isLetter M_Re_isLetter 1 ∧ Cond.static yX7_isLetter ∈ wsL_law := ⟨⟨aw_in_12 _ (List.mem_of_getElem? (i := 12) rfl), aw_in_0 _ (List.mem_of_getElem? (i := 21) rfl), by decide +kernel, by decide +kernel, by decide +kernel⟩, aw_in_12 _ (List.mem_of_getElem? (i := 11) rfl)⟩
theorem yy_Re_isOperator : aw_Y yX7_isOperator M_Re_isOperator 1 ∧ Cond.static yX7_isOperator ∈ wsL_law := ⟨⟨aw_in_13 _ (List.mem_of_getElem? (i := 22) rfl), aw_in_0 _ (List.mem_of_getElem? (i := 21) rfl), by decide +kernel, by decide +kernel, by decide +kernel⟩, aw_in_13 _ (List.mem_of_getElem? (i := 21) rfl)⟩
theorem yy_Re_readBlock : aw_Y yX7_readBlock M_Re_readBlock 0 ∧ Cond.instanceMethod yX7_readBlock ∈ wsL_law ∧ Cond.selects (yX7_readBlock).cls yX7_readBlock yX7_readBlock ∈ wsL_law := ⟨⟨aw_in_11 _ (List.mem_of_getElem? (i := 21) rfl), aw_in_0 _ (List.mem_of_getElem? (i := 21) rfl), by decide +kernel, by decide +kernel, by decide +kernel⟩, aw_in_11 _ (List.mem_of_getElem? (i := 19) rfl), aw_in_11 _ (List.mem_of_getElem? (i := 20) rfl)⟩
theorem yy_Re_readChoice : aw_Y yX7_readChoice M_Re_readChoice 0 ∧ Cond.instanceMethod yX7_readChoice ∈ wsL_law ∧ Cond.selects (yX7_readChoice).cls yX7_readChoice yX7_readChoice ∈ wsL_law := ⟨⟨aw_in_14 _ (List.mem_of_getElem? (i := 15) rfl), aw_in_0 _ (List.mem_of_getElem? (i := 21) rfl), by decide +kernel, by decide +kernel, by decide +kernel⟩, aw_in_14 _ (List.mem_of_getElem? (i := 13) rfl), aw_in_14 _ (List.mem_of_getElem? (i := 14) rfl)⟩
theorem yy_Re_readEnd : aw_Y yX7_readEnd M_Re_readEnd 0 ∧ Cond.instanceMethod yX7_readEnd ∈ wsL_law ∧ Cond.selects (yX7_readEnd).cls yX7_readEnd yX7_readEnd ∈ wsL_law := ⟨⟨aw_in_14 _ (List.mem_of_getElem? (i := 7) rfl), aw_in_0 _ (List.mem_of_getElem? (i := 21) rfl), by decide +kernel, by decide +kernel, by decide +kernel⟩, aw_in_14 _ (List.mem_of_getElem? (i := 5) rfl), aw_in_14 _ (List.mem_of_getElem? (i := 6) rfl)⟩
theorem yy_Re_readNumber : aw_Y yX7_readNumber M_Re_readNumber 1 ∧ Cond.instanceMethod yX7_readNumber ∈ wsL_law ∧ Cond.selects (yX7_readNumber).cls yX7_readNumber yX7_readNumber ∈ wsL_law := ⟨⟨aw_in_13 _ (List.mem_of_getElem? (i := 0) rfl), aw_in_0 _ (List.mem_of_getElem? (i := 21) rfl), by decide +kernel, by decide +kernel, by decide +kernel⟩, aw_in_12 _ (List.mem_of_getElem? (i := 22) rfl), aw_in_12 _ (List.mem_of_getElem? (i := 23) rfl)⟩
theorem yy_Re_readOperand : aw_Y yX7_readOperand M_Re_readOperand 0 ∧ Cond.instanceMethod yX7_readOperand ∈ wsL_law ∧ Cond.selects (yX7_readOperand).cls yX7_readOperand yX7_readOperand ∈ wsL_law := ⟨⟨aw_in_12 _ (List.mem_of_getElem? (i := 20) rfl), aw_in_0 _ (List.mem_of_getElem? (i := 21) rfl), by decide +kernel, by decide +kernel, by decide +kernel⟩, aw_in_12 _ (List.mem_of_getElem? (i := 18) rfl), aw_in_12 _ (List.mem_of_getElem? (i := 19) rfl)⟩
theorem yy_Re_readRightSide : aw_Y yX7_readRightSide M_Re_readRightSide 1 ∧ Cond.instanceMethod yX7_readRightSide ∈ wsL_law ∧ Cond.selects (yX7_readRightSide).cls yX7_readRightSide yX7_readRightSide ∈ wsL_law := ⟨⟨aw_in_13 _ (List.mem_of_getElem? (i := 19) rfl), aw_in_0 _ (List.mem_of_getElem? (i := 21) rfl), by decide +kernel, by decide +kernel, by decide +kernel⟩, aw_in_13 _ (List.mem_of_getElem? (i := 17) rfl), aw_in_13 _ (List.mem_of_getElem? (i := 18) rfl)⟩
theorem yy_Re_readStatement : aw_Y yX7_readStatement M_Re_readStatement 0 ∧ Cond.instanceMethod yX7_readStatement ∈ wsL_law ∧ Cond.selects (yX7_readStatement).cls yX7_readStatement yX7_readStatement ∈ wsL_law := ⟨⟨aw_in_12 _ (List.mem_of_getElem? (i := 16) rfl), aw_in_0 _ (List.mem_of_getElem? (i := 21) rfl), by decide +kernel, by decide +kernel, by decide +kernel⟩, aw_in_12 _ (List.mem_of_getElem? (i := 14) rfl), aw_in_12 _ (List.mem_of_getElem? (i := 15) rfl)⟩
theorem yy_Re_readTarget : aw_Y yX7_readTarget M_Re_readTarget 2 ∧ Cond.instanceMethod yX7_readTarget ∈ wsL_law ∧ Cond.selects (yX7_readTarget).cls yX7_readTarget yX7_readTarget ∈ wsL_law := ⟨⟨aw_in_14 _ (List.mem_of_getElem? (i := 11) rfl), aw_in_0 _ (List.mem_of_getElem? (i := 21) rfl), by decide +kernel, by decide +kernel, by decide +kernel⟩, aw_in_14 _ (List.mem_of_getElem? (i := 9) rfl), aw_in_14 _ (List.mem_of_getElem? (i := 10) rfl)⟩
theorem yy_Re_refuse : aw_Y yX7_refuse M_Re_refuse 1 ∧ Cond.instanceMethod yX7_refuse ∈ wsL_law ∧ Cond.selects (yX7_refuse).cls yX7_refuse yX7_refuse ∈ wsL_law := ⟨⟨aw_in_12 _ (List.mem_of_getElem? (i := 1) rfl), aw_in_0 _ (List.mem_of_getElem? (i := 21) rfl), by decide +kernel, by decide +kernel, by decide +kernel⟩, aw_in_11 _ (List.mem_of_getElem? (i := 23) rfl), aw_in_12 _ (List.mem_of_getElem? (i := 0) rfl)⟩
theorem yy_Re_startsStatement : aw_Y yX7_startsStatement M_Re_startsStatement 0 ∧ Cond.instanceMethod yX7_startsStatement ∈ wsL_law ∧ Cond.selects (yX7_startsStatement).cls yX7_startsStatement yX7_startsStatement ∈ wsL_law := ⟨⟨aw_in_12 _ (List.mem_of_getElem? (i := 5) rfl), aw_in_0 _ (List.mem_of_getElem? (i := 21) rfl), by decide +kernel, by decide +kernel, by decide +kernel⟩, aw_in_12 _ (List.mem_of_getElem? (i := 3) rfl), aw_in_12 _ (List.mem_of_getElem? (i := 4) rfl)⟩
theorem yy_Re_take : aw_Y yX7_take M_Re_take 1 ∧ Cond.instanceMethod yX7_take ∈ wsL_law ∧ Cond.selects (yX7_take).cls yX7_take yX7_take ∈ wsL_law := ⟨⟨aw_in_13 _ (List.mem_of_getElem? (i := 15) rfl), aw_in_0 _ (List.mem_of_getElem? (i := 21) rfl), by decide +kernel, by decide +kernel, by decide +kernel⟩, aw_in_13 _ (List.mem_of_getElem? (i := 13) rfl), aw_in_13 _ (List.mem_of_getElem? (i := 14) rfl)⟩
theorem yy_Ru_assign : aw_Y yX8_assign M_Ru_assign 2 ∧ Cond.instanceMethod yX8_assign ∈ wsL_law ∧ Cond.selects (yX8_assign).cls yX8_assign yX8_assign ∈ wsL_law := ⟨⟨aw_in_47 _ (List.mem_of_getElem? (i := 12) rfl), aw_in_1 _ (List.mem_of_getElem? (i := 21) rfl), by decide +kernel, by decide +kernel, by decide +kernel⟩, aw_in_47 _ (List.mem_of_getElem? (i := 10) rfl), aw_in_47 _ (List.mem_of_getElem? (i := 11) rfl)⟩
theorem yy_Ru_compute : aw_Y yX8_compute M_Ru_compute 2 ∧ Cond.instanceMethod yX8_compute ∈ wsL_law ∧ Cond.selects (yX8_compute).cls yX8_compute yX8_compute ∈ wsL_law := ⟨⟨aw_in_46 _ (List.mem_of_getElem? (i := 10) rfl), aw_in_1 _ (List.mem_of_getElem? (i := 21) rfl), by decide +kernel, by decide +kernel, by decide +kernel⟩, aw_in_46 _ (List.mem_of_getElem? (i := 8) rfl), aw_in_46 _ (List.mem_of_getElem? (i := 9) rfl)⟩
theorem yy_Ru_divide : aw_Y yX8_divide M_Ru_divide 3 ∧ Cond.instanceMethod yX8_divide ∈ wsL_law ∧ Cond.selects (yX8_divide).cls yX8_divide yX8_divide ∈ wsL_law := ⟨⟨aw_in_46 _ (List.mem_of_getElem? (i := 21) rfl), aw_in_1 _ (List.mem_of_getElem? (i := 21) rfl), by decide +kernel, by decide +kernel, by decide +kernel⟩, aw_in_46 _ (List.mem_of_getElem? (i := 19) rfl), aw_in_46 _ (List.mem_of_getElem? (i := 20) rfl)⟩
theorem yy_Ru_doNode : aw_Y yX8_doNode M_Ru_doNode 2 ∧ Cond.instanceMethod yX8_doNode ∈ wsL_law ∧ Cond.selects (yX8_doNode).cls yX8_doNode yX8_doNode ∈ wsL_law := ⟨⟨aw_in_47 _ (List.mem_of_getElem? (i := 1) rfl), aw_in_1 _ (List.mem_of_getElem? (i := 21) rfl), by decide +kernel, by decide +kernel, by decide +kernel⟩, aw_in_46 _ (List.mem_of_getElem? (i := 23) rfl), aw_in_47 _ (List.mem_of_getElem? (i := 0) rfl)⟩
theorem yy_Ru_endsAndWroteLike : aw_Y yX8_endsAndWroteLike M_Ru_endsAndWroteLike 1 ∧ Cond.instanceMethod yX8_endsAndWroteLike ∈ wsL_law ∧ Cond.selects (yX8_endsAndWroteLike).cls yX8_endsAndWroteLike yX8_endsAndWroteLike ∈ wsL_law := ⟨⟨aw_in_51 _ (List.mem_of_getElem? (i := 11) rfl), aw_in_1 _ (List.mem_of_getElem? (i := 21) rfl), by decide +kernel, by decide +kernel, by decide +kernel⟩, aw_in_51 _ (List.mem_of_getElem? (i := 9) rfl), aw_in_51 _ (List.mem_of_getElem? (i := 10) rfl)⟩
theorem yy_Ru_follow : aw_Y yX8_follow M_Ru_follow 3 ∧ Cond.instanceMethod yX8_follow ∈ wsL_law ∧ Cond.selects (yX8_follow).cls yX8_follow yX8_follow ∈ wsL_law := ⟨⟨aw_in_45 _ (List.mem_of_getElem? (i := 10) rfl), aw_in_1 _ (List.mem_of_getElem? (i := 21) rfl), by decide +kernel, by decide +kernel, by decide +kernel⟩, aw_in_45 _ (List.mem_of_getElem? (i := 8) rfl), aw_in_45 _ (List.mem_of_getElem? (i := 9) rfl)⟩
theorem yy_Ru_nextNode : aw_Y yX8_nextNode M_Ru_nextNode 1 ∧ Cond.instanceMethod yX8_nextNode ∈ wsL_law ∧ Cond.selects (yX8_nextNode).cls yX8_nextNode yX8_nextNode ∈ wsL_law := ⟨⟨aw_in_48 _ (List.mem_of_getElem? (i := 0) rfl), aw_in_1 _ (List.mem_of_getElem? (i := 21) rfl), by decide +kernel, by decide +kernel, by decide +kernel⟩, aw_in_47 _ (List.mem_of_getElem? (i := 22) rfl), aw_in_47 _ (List.mem_of_getElem? (i := 23) rfl)⟩
theorem yy_Ru_putIn : aw_Y yX8_putIn M_Ru_putIn 2 ∧ Cond.instanceMethod yX8_putIn ∈ wsL_law ∧ Cond.selects (yX8_putIn).cls yX8_putIn yX8_putIn ∈ wsL_law := ⟨⟨aw_in_46 _ (List.mem_of_getElem? (i := 2) rfl), aw_in_1 _ (List.mem_of_getElem? (i := 21) rfl), by decide +kernel, by decide +kernel, by decide +kernel⟩, aw_in_46 _ (List.mem_of_getElem? (i := 0) rfl), aw_in_46 _ (List.mem_of_getElem? (i := 1) rfl)⟩
theorem yy_Ru_setLetter : aw_Y yX8_setLetter M_Ru_setLetter 2 ∧ Cond.instanceMethod yX8_setLetter ∈ wsL_law ∧ Cond.selects (yX8_setLetter).cls yX8_setLetter yX8_setLetter ∈ wsL_law := ⟨⟨aw_in_47 _ (List.mem_of_getElem? (i := 8) rfl), aw_in_1 _ (List.mem_of_getElem? (i := 21) rfl), by decide +kernel, by decide +kernel, by decide +kernel⟩, aw_in_47 _ (List.mem_of_getElem? (i := 6) rfl), aw_in_47 _ (List.mem_of_getElem? (i := 7) rfl)⟩
theorem yy_Ru_step : aw_Y yX8_step M_Ru_step 2 ∧ Cond.instanceMethod yX8_step ∈ wsL_law ∧ Cond.selects (yX8_step).cls yX8_step yX8_step ∈ wsL_law := ⟨⟨aw_in_45 _ (List.mem_of_getElem? (i := 22) rfl), aw_in_1 _ (List.mem_of_getElem? (i := 21) rfl), by decide +kernel, by decide +kernel, by decide +kernel⟩, aw_in_45 _ (List.mem_of_getElem? (i := 20) rfl), aw_in_45 _ (List.mem_of_getElem? (i := 21) rfl)⟩
theorem yy_Ru_valueOf : aw_Y yX8_valueOf M_Ru_valueOf 1 ∧ Cond.instanceMethod yX8_valueOf ∈ wsL_law ∧ Cond.selects (yX8_valueOf).cls yX8_valueOf yX8_valueOf ∈ wsL_law := ⟨⟨aw_in_46 _ (List.mem_of_getElem? (i := 17) rfl), aw_in_1 _ (List.mem_of_getElem? (i := 21) rfl), by decide +kernel, by decide +kernel, by decide +kernel⟩, aw_in_46 _ (List.mem_of_getElem? (i := 15) rfl), aw_in_46 _ (List.mem_of_getElem? (i := 16) rfl)⟩
theorem yy_Ru_writeOut : aw_Y yX8_writeOut M_Ru_writeOut 1 ∧ Cond.instanceMethod yX8_writeOut ∈ wsL_law ∧ Cond.selects (yX8_writeOut).cls yX8_writeOut yX8_writeOut ∈ wsL_law := ⟨⟨aw_in_47 _ (List.mem_of_getElem? (i := 19) rfl), aw_in_1 _ (List.mem_of_getElem? (i := 21) rfl), by decide +kernel, by decide +kernel, by decide +kernel⟩, aw_in_47 _ (List.mem_of_getElem? (i := 17) rfl), aw_in_47 _ (List.mem_of_getElem? (i := 18) rfl)⟩
theorem yy_Te_at : aw_Y yX9_at M_Te_at 1 ∧ Cond.instanceMethod yX9_at ∈ wsL_law ∧ Cond.selects (yX9_at).cls yX9_at yX9_at ∈ wsL_law := ⟨⟨aw_in_12 _ (List.mem_of_getElem? (i := 9) rfl), aw_in_0 _ (List.mem_of_getElem? (i := 14) rfl), by decide +kernel, by decide +kernel, by decide +kernel⟩, aw_in_12 _ (List.mem_of_getElem? (i := 7) rfl), aw_in_12 _ (List.mem_of_getElem? (i := 8) rfl)⟩
theorem yy_Te_copyFrom : aw_Y yX9_copyFrom M_Te_copyFrom 1 ∧ Cond.instanceMethod yX9_copyFrom ∈ wsL_law ∧ Cond.selects (yX9_copyFrom).cls yX9_copyFrom yX9_copyFrom ∈ wsL_law := ⟨⟨aw_in_11 _ (List.mem_of_getElem? (i := 12) rfl), aw_in_0 _ (List.mem_of_getElem? (i := 14) rfl), by decide +kernel, by decide +kernel, by decide +kernel⟩, aw_in_11 _ (List.mem_of_getElem? (i := 10) rfl), aw_in_11 _ (List.mem_of_getElem? (i := 11) rfl)⟩
theorem yy_Te_cut : aw_Y yX9_cut M_Te_cut 1 ∧ Cond.instanceMethod yX9_cut ∈ wsL_law ∧ Cond.selects (yX9_cut).cls yX9_cut yX9_cut ∈ wsL_law := ⟨⟨aw_in_10 _ (List.mem_of_getElem? (i := 10) rfl), aw_in_0 _ (List.mem_of_getElem? (i := 14) rfl), by decide +kernel, by decide +kernel, by decide +kernel⟩, aw_in_10 _ (List.mem_of_getElem? (i := 8) rfl), aw_in_10 _ (List.mem_of_getElem? (i := 9) rfl)⟩
theorem yy_Te_put : aw_Y yX9_put M_Te_put 1 ∧ Cond.instanceMethod yX9_put ∈ wsL_law ∧ Cond.selects (yX9_put).cls yX9_put yX9_put ∈ wsL_law := ⟨⟨aw_in_9 _ (List.mem_of_getElem? (i := 17) rfl), aw_in_0 _ (List.mem_of_getElem? (i := 14) rfl), by decide +kernel, by decide +kernel, by decide +kernel⟩, aw_in_9 _ (List.mem_of_getElem? (i := 15) rfl), aw_in_9 _ (List.mem_of_getElem? (i := 16) rfl)⟩
theorem yy_Te_putFour : aw_Y yX9_putFour M_Te_putFour 1 ∧ Cond.instanceMethod yX9_putFour ∈ wsL_law ∧ Cond.selects (yX9_putFour).cls yX9_putFour yX9_putFour ∈ wsL_law := ⟨⟨aw_in_9 _ (List.mem_of_getElem? (i := 13) rfl), aw_in_0 _ (List.mem_of_getElem? (i := 14) rfl), by decide +kernel, by decide +kernel, by decide +kernel⟩, aw_in_9 _ (List.mem_of_getElem? (i := 11) rfl), aw_in_9 _ (List.mem_of_getElem? (i := 12) rfl)⟩
theorem yy_Te_putNumber : aw_Y yX9_putNumber M_Te_putNumber 1 ∧ Cond.instanceMethod yX9_putNumber ∈ wsL_law ∧ Cond.selects (yX9_putNumber).cls yX9_putNumber yX9_putNumber ∈ wsL_law := ⟨⟨aw_in_62 _ (List.mem_of_getElem? (i := 22) rfl), aw_in_0 _ (List.mem_of_getElem? (i := 14) rfl), by decide +kernel, by decide +kernel, by decide +kernel⟩, aw_in_62 _ (List.mem_of_getElem? (i := 20) rfl), aw_in_62 _ (List.mem_of_getElem? (i := 21) rfl)⟩
theorem yy_Te_size : aw_Y yX9_size M_Te_size 0 ∧ Cond.instanceMethod yX9_size ∈ wsL_law ∧ Cond.selects (yX9_size).cls yX9_size yX9_size ∈ wsL_law := ⟨⟨aw_in_9 _ (List.mem_of_getElem? (i := 8) rfl), aw_in_0 _ (List.mem_of_getElem? (i := 14) rfl), by decide +kernel, by decide +kernel, by decide +kernel⟩, aw_in_9 _ (List.mem_of_getElem? (i := 6) rfl), aw_in_9 _ (List.mem_of_getElem? (i := 7) rfl)⟩
theorem yy_Wa_count : aw_Y yX10_count M_Wa_count 3 ∧ Cond.instanceMethod yX10_count ∈ wsL_law ∧ Cond.selects (yX10_count).cls yX10_count yX10_count ∈ wsL_law := ⟨⟨aw_in_59 _ (List.mem_of_getElem? (i := 22) rfl), aw_in_2 _ (List.mem_of_getElem? (i := 3) rfl), by decide +kernel, by decide +kernel, by decide +kernel⟩, aw_in_59 _ (List.mem_of_getElem? (i := 20) rfl), aw_in_59 _ (List.mem_of_getElem? (i := 21) rfl)⟩
theorem yy_Wa_endWaysAtLast : aw_Y yX10_endWaysAtLast M_Wa_endWaysAtLast 1 ∧ Cond.instanceMethod yX10_endWaysAtLast ∈ wsL_law ∧ Cond.selects (yX10_endWaysAtLast).cls yX10_endWaysAtLast yX10_endWaysAtLast ∈ wsL_law := ⟨⟨aw_in_60 _ (List.mem_of_getElem? (i := 7) rfl), aw_in_2 _ (List.mem_of_getElem? (i := 3) rfl), by decide +kernel, by decide +kernel, by decide +kernel⟩, aw_in_60 _ (List.mem_of_getElem? (i := 5) rfl), aw_in_60 _ (List.mem_of_getElem? (i := 6) rfl)⟩
theorem yy_Wa_extend : aw_Y yX10_extend M_Wa_extend 3 ∧ Cond.instanceMethod yX10_extend ∈ wsL_law ∧ Cond.selects (yX10_extend).cls yX10_extend yX10_extend ∈ wsL_law := ⟨⟨aw_in_60 _ (List.mem_of_getElem? (i := 23) rfl), aw_in_2 _ (List.mem_of_getElem? (i := 3) rfl), by decide +kernel, by decide +kernel, by decide +kernel⟩, aw_in_60 _ (List.mem_of_getElem? (i := 21) rfl), aw_in_60 _ (List.mem_of_getElem? (i := 22) rfl)⟩
theorem yy_Wa_goOnByOneEdge : aw_Y yX10_goOnByOneEdge M_Wa_goOnByOneEdge 1 ∧ Cond.instanceMethod yX10_goOnByOneEdge ∈ wsL_law ∧ Cond.selects (yX10_goOnByOneEdge).cls yX10_goOnByOneEdge yX10_goOnByOneEdge ∈ wsL_law := ⟨⟨aw_in_60 _ (List.mem_of_getElem? (i := 18) rfl), aw_in_2 _ (List.mem_of_getElem? (i := 3) rfl), by decide +kernel, by decide +kernel, by decide +kernel⟩, aw_in_60 _ (List.mem_of_getElem? (i := 16) rfl), aw_in_60 _ (List.mem_of_getElem? (i := 17) rfl)⟩
theorem yy_Wa_swap : aw_Y yX10_swap M_Wa_swap 0 ∧ Cond.instanceMethod yX10_swap ∈ wsL_law ∧ Cond.selects (yX10_swap).cls yX10_swap yX10_swap ∈ wsL_law := ⟨⟨aw_in_61 _ (List.mem_of_getElem? (i := 4) rfl), aw_in_2 _ (List.mem_of_getElem? (i := 3) rfl), by decide +kernel, by decide +kernel, by decide +kernel⟩, aw_in_61 _ (List.mem_of_getElem? (i := 2) rfl), aw_in_61 _ (List.mem_of_getElem? (i := 3) rfl)⟩
theorem yy_Rf_allWorked : aw_Y yX12_allWorked M_Rf_allWorked 0 ∧ Cond.instanceMethod yX12_allWorked ∈ wsL_law ∧ Cond.selects (yX12_allWorked).cls yX12_allWorked yX12_allWorked ∈ wsL_law := ⟨⟨aw_in_49 _ (List.mem_of_getElem? (i := 20) rfl), aw_in_0 _ (List.mem_of_getElem? (i := 5) rfl), by decide +kernel, by decide +kernel, by decide +kernel⟩, aw_in_49 _ (List.mem_of_getElem? (i := 18) rfl), aw_in_49 _ (List.mem_of_getElem? (i := 19) rfl)⟩
theorem yy_Rf_areAllLeading : aw_Y yX12_areAllLeading M_Rf_areAllLeading 0 ∧ Cond.instanceMethod yX12_areAllLeading ∈ wsL_law ∧ Cond.selects (yX12_areAllLeading).cls yX12_areAllLeading yX12_areAllLeading ∈ wsL_law := ⟨⟨aw_in_31 _ (List.mem_of_getElem? (i := 19) rfl), aw_in_0 _ (List.mem_of_getElem? (i := 5) rfl), by decide +kernel, by decide +kernel, by decide +kernel⟩, aw_in_31 _ (List.mem_of_getElem? (i := 17) rfl), aw_in_31 _ (List.mem_of_getElem? (i := 18) rfl)⟩
theorem yy_Rf_at : aw_Y yX12_at M_Rf_at 4 ∧ Cond.static yX12_at ∈ wsL_law := ⟨⟨aw_in_34 _ (List.mem_of_getElem? (i := 13) rfl), aw_in_0 _ (List.mem_of_getElem? (i := 5) rfl), by decide +kernel, by decide +kernel, by decide +kernel⟩, aw_in_34 _ (List.mem_of_getElem? (i := 12) rfl)⟩
theorem yy_Rf_bitOf : aw_Y yX12_bitOf M_Rf_bitOf 1 ∧ Cond.static yX12_bitOf ∈ wsL_law := ⟨⟨aw_in_35 _ (List.mem_of_getElem? (i := 4) rfl), aw_in_0 _ (List.mem_of_getElem? (i := 5) rfl), by decide +kernel, by decide +kernel, by decide +kernel⟩, aw_in_35 _ (List.mem_of_getElem? (i := 3) rfl)⟩
theorem yy_Rf_bits : aw_Y yX12_bits M_Rf_bits 1 ∧ Cond.static yX12_bits ∈ wsL_law := ⟨⟨aw_in_59 _ (List.mem_of_getElem? (i := 11) rfl), aw_in_0 _ (List.mem_of_getElem? (i := 5) rfl), by decide +kernel, by decide +kernel, by decide +kernel⟩, aw_in_59 _ (List.mem_of_getElem? (i := 10) rfl)⟩
theorem yy_Rf_canRun : aw_Y yX12_canRun M_Rf_canRun 1 ∧ Cond.instanceMethod yX12_canRun ∈ wsL_law ∧ Cond.selects (yX12_canRun).cls yX12_canRun yX12_canRun ∈ wsL_law := ⟨⟨aw_in_48 _ (List.mem_of_getElem? (i := 15) rfl), aw_in_0 _ (List.mem_of_getElem? (i := 5) rfl), by decide +kernel, by decide +kernel, by decide +kernel⟩, aw_in_48 _ (List.mem_of_getElem? (i := 13) rfl), aw_in_48 _ (List.mem_of_getElem? (i := 14) rfl)⟩
theorem yy_Rf_cell : aw_Y yX12_cell M_Rf_cell 3 ∧ Cond.static yX12_cell ∈ wsL_law := ⟨⟨aw_in_32 _ (List.mem_of_getElem? (i := 18) rfl), aw_in_0 _ (List.mem_of_getElem? (i := 5) rfl), by decide +kernel, by decide +kernel, by decide +kernel⟩, aw_in_32 _ (List.mem_of_getElem? (i := 17) rfl)⟩
theorem yy_Rf_changed : aw_Y yX12_changed M_Rf_changed 1 ∧ Cond.instanceMethod yX12_changed ∈ wsL_law ∧ Cond.selects (yX12_changed).cls yX12_changed yX12_changed ∈ wsL_law := ⟨⟨aw_in_33 _ (List.mem_of_getElem? (i := 2) rfl), aw_in_0 _ (List.mem_of_getElem? (i := 5) rfl), by decide +kernel, by decide +kernel, by decide +kernel⟩, aw_in_33 _ (List.mem_of_getElem? (i := 0) rfl), aw_in_33 _ (List.mem_of_getElem? (i := 1) rfl)⟩
theorem yy_Rf_clashes : aw_Y yX12_clashes M_Rf_clashes 2 ∧ Cond.instanceMethod yX12_clashes ∈ wsL_law ∧ Cond.selects (yX12_clashes).cls yX12_clashes yX12_clashes ∈ wsL_law := ⟨⟨aw_in_43 _ (List.mem_of_getElem? (i := 2) rfl), aw_in_0 _ (List.mem_of_getElem? (i := 5) rfl), by decide +kernel, by decide +kernel, by decide +kernel⟩, aw_in_43 _ (List.mem_of_getElem? (i := 0) rfl), aw_in_43 _ (List.mem_of_getElem? (i := 1) rfl)⟩
theorem yy_Rf_copyRow : aw_Y yX12_copyRow M_Rf_copyRow 2 ∧ Cond.instanceMethod yX12_copyRow ∈ wsL_law ∧ Cond.selects (yX12_copyRow).cls yX12_copyRow yX12_copyRow ∈ wsL_law := ⟨⟨aw_in_30 _ (List.mem_of_getElem? (i := 4) rfl), aw_in_0 _ (List.mem_of_getElem? (i := 5) rfl), by decide +kernel, by decide +kernel, by decide +kernel⟩, aw_in_30 _ (List.mem_of_getElem? (i := 2) rfl), aw_in_30 _ (List.mem_of_getElem? (i := 3) rfl)⟩
theorem yy_Rf_costs : aw_Y yX12_costs M_Rf_costs 2 ∧ Cond.instanceMethod yX12_costs ∈ wsL_law ∧ Cond.selects (yX12_costs).cls yX12_costs yX12_costs ∈ wsL_law := ⟨⟨aw_in_55 _ (List.mem_of_getElem? (i := 8) rfl), aw_in_0 _ (List.mem_of_getElem? (i := 5) rfl), by decide +kernel, by decide +kernel, by decide +kernel⟩, aw_in_55 _ (List.mem_of_getElem? (i := 6) rfl), aw_in_55 _ (List.mem_of_getElem? (i := 7) rfl)⟩
theorem yy_Rf_countCome : aw_Y yX12_countCome M_Rf_countCome 0 ∧ Cond.instanceMethod yX12_countCome ∈ wsL_law ∧ Cond.selects (yX12_countCome).cls yX12_countCome yX12_countCome ∈ wsL_law := ⟨⟨aw_in_31 _ (List.mem_of_getElem? (i := 11) rfl), aw_in_0 _ (List.mem_of_getElem? (i := 5) rfl), by decide +kernel, by decide +kernel, by decide +kernel⟩, aw_in_31 _ (List.mem_of_getElem? (i := 9) rfl), aw_in_31 _ (List.mem_of_getElem? (i := 10) rfl)⟩
theorem yy_Rf_countNodes : aw_Y yX12_countNodes M_Rf_countNodes 1 ∧ Cond.instanceMethod yX12_countNodes ∈ wsL_law ∧ Cond.selects (yX12_countNodes).cls yX12_countNodes yX12_countNodes ∈ wsL_law := ⟨⟨aw_in_37 _ (List.mem_of_getElem? (i := 18) rfl), aw_in_0 _ (List.mem_of_getElem? (i := 5) rfl), by decide +kernel, by decide +kernel, by decide +kernel⟩, aw_in_37 _ (List.mem_of_getElem? (i := 16) rfl), aw_in_37 _ (List.mem_of_getElem? (i := 17) rfl)⟩
theorem yy_Rf_countPlaced : aw_Y yX12_countPlaced M_Rf_countPlaced 3 ∧ Cond.instanceMethod yX12_countPlaced ∈ wsL_law ∧ Cond.selects (yX12_countPlaced).cls yX12_countPlaced yX12_countPlaced ∈ wsL_law := ⟨⟨aw_in_42 _ (List.mem_of_getElem? (i := 22) rfl), aw_in_0 _ (List.mem_of_getElem? (i := 5) rfl), by decide +kernel, by decide +kernel, by decide +kernel⟩, aw_in_42 _ (List.mem_of_getElem? (i := 20) rfl), aw_in_42 _ (List.mem_of_getElem? (i := 21) rfl)⟩
theorem yy_Rf_doClash : aw_Y yX12_doClash M_Rf_doClash 3 ∧ Cond.instanceMethod yX12_doClash ∈ wsL_law ∧ Cond.selects (yX12_doClash).cls yX12_doClash yX12_doClash ∈ wsL_law := ⟨⟨aw_in_43 _ (List.mem_of_getElem? (i := 6) rfl), aw_in_0 _ (List.mem_of_getElem? (i := 5) rfl), by decide +kernel, by decide +kernel, by decide +kernel⟩, aw_in_43 _ (List.mem_of_getElem? (i := 4) rfl), aw_in_43 _ (List.mem_of_getElem? (i := 5) rfl)⟩
theorem yy_Rf_does : aw_Y yX12_does M_Rf_does 2 ∧ Cond.instanceMethod yX12_does ∈ wsL_law ∧ Cond.selects (yX12_does).cls yX12_does yX12_does ∈ wsL_law := ⟨⟨aw_in_49 _ (List.mem_of_getElem? (i := 12) rfl), aw_in_0 _ (List.mem_of_getElem? (i := 5) rfl), by decide +kernel, by decide +kernel, by decide +kernel⟩, aw_in_49 _ (List.mem_of_getElem? (i := 10) rfl), aw_in_49 _ (List.mem_of_getElem? (i := 11) rfl)⟩
theorem yy_Rf_doesKeep : aw_Y yX12_doesKeep M_Rf_doesKeep 2 ∧ Cond.instanceMethod yX12_doesKeep ∈ wsL_law ∧ Cond.selects (yX12_doesKeep).cls yX12_doesKeep yX12_doesKeep ∈ wsL_law := ⟨⟨aw_in_32 _ (List.mem_of_getElem? (i := 22) rfl), aw_in_0 _ (List.mem_of_getElem? (i := 5) rfl), by decide +kernel, by decide +kernel, by decide +kernel⟩, aw_in_32 _ (List.mem_of_getElem? (i := 20) rfl), aw_in_32 _ (List.mem_of_getElem? (i := 21) rfl)⟩
theorem yy_Rf_doesUse : aw_Y yX12_doesUse M_Rf_doesUse 2 ∧ Cond.instanceMethod yX12_doesUse ∈ wsL_law ∧ Cond.selects (yX12_doesUse).cls yX12_doesUse yX12_doesUse ∈ wsL_law := ⟨⟨aw_in_32 _ (List.mem_of_getElem? (i := 7) rfl), aw_in_0 _ (List.mem_of_getElem? (i := 5) rfl), by decide +kernel, by decide +kernel, by decide +kernel⟩, aw_in_32 _ (List.mem_of_getElem? (i := 5) rfl), aw_in_32 _ (List.mem_of_getElem? (i := 6) rfl)⟩
theorem yy_Rf_edges : aw_Y yX12_edges M_Rf_edges 0 ∧ Cond.instanceMethod yX12_edges ∈ wsL_law ∧ Cond.selects (yX12_edges).cls yX12_edges yX12_edges ∈ wsL_law := ⟨⟨aw_in_37 _ (List.mem_of_getElem? (i := 14) rfl), aw_in_0 _ (List.mem_of_getElem? (i := 5) rfl), by decide +kernel, by decide +kernel, by decide +kernel⟩, aw_in_37 _ (List.mem_of_getElem? (i := 12) rfl), aw_in_37 _ (List.mem_of_getElem? (i := 13) rfl)⟩
theorem yy_Rf_expressionOf : aw_Y yX12_expressionOf M_Rf_expressionOf 1 ∧ Cond.instanceMethod yX12_expressionOf ∈ wsL_law ∧ Cond.selects (yX12_expressionOf).cls yX12_expressionOf yX12_expressionOf ∈ wsL_law := ⟨⟨aw_in_32 _ (List.mem_of_getElem? (i := 11) rfl), aw_in_0 _ (List.mem_of_getElem? (i := 5) rfl), by decide +kernel, by decide +kernel, by decide +kernel⟩, aw_in_32 _ (List.mem_of_getElem? (i := 9) rfl), aw_in_32 _ (List.mem_of_getElem? (i := 10) rfl)⟩
theorem yy_Rf_fails : aw_Y yX12_fails M_Rf_fails 1 ∧ Cond.instanceMethod yX12_fails ∈ wsL_law ∧ Cond.selects (yX12_fails).cls yX12_fails yX12_fails ∈ wsL_law := ⟨⟨aw_in_27 _ (List.mem_of_getElem? (i := 18) rfl), aw_in_0 _ (List.mem_of_getElem? (i := 5) rfl), by decide +kernel, by decide +kernel, by decide +kernel⟩, aw_in_27 _ (List.mem_of_getElem? (i := 16) rfl), aw_in_27 _ (List.mem_of_getElem? (i := 17) rfl)⟩
theorem yy_Rf_findExpression : aw_Y yX12_findExpression M_Rf_findExpression 3 ∧ Cond.instanceMethod yX12_findExpression ∈ wsL_law ∧ Cond.selects (yX12_findExpression).cls yX12_findExpression yX12_findExpression ∈ wsL_law := ⟨⟨aw_in_29 _ (List.mem_of_getElem? (i := 16) rfl), aw_in_0 _ (List.mem_of_getElem? (i := 5) rfl), by decide +kernel, by decide +kernel, by decide +kernel⟩, aw_in_29 _ (List.mem_of_getElem? (i := 14) rfl), aw_in_29 _ (List.mem_of_getElem? (i := 15) rfl)⟩
theorem yy_Rf_four : aw_Y yX12_four M_Rf_four 1 ∧ Cond.instanceMethod yX12_four ∈ wsL_law ∧ Cond.selects (yX12_four).cls yX12_four yX12_four ∈ wsL_law := ⟨⟨aw_in_10 _ (List.mem_of_getElem? (i := 2) rfl), aw_in_0 _ (List.mem_of_getElem? (i := 5) rfl), by decide +kernel, by decide +kernel, by decide +kernel⟩, aw_in_10 _ (List.mem_of_getElem? (i := 0) rfl), aw_in_10 _ (List.mem_of_getElem? (i := 1) rfl)⟩
theorem yy_Rf_get : aw_Y yX12_get M_Rf_get 1 ∧ Cond.instanceMethod yX12_get ∈ wsL_law ∧ Cond.selects (yX12_get).cls yX12_get yX12_get ∈ wsL_law := ⟨⟨aw_in_30 _ (List.mem_of_getElem? (i := 19) rfl), aw_in_0 _ (List.mem_of_getElem? (i := 5) rfl), by decide +kernel, by decide +kernel, by decide +kernel⟩, aw_in_30 _ (List.mem_of_getElem? (i := 17) rfl), aw_in_30 _ (List.mem_of_getElem? (i := 18) rfl)⟩
theorem yy_Rf_goFurther : aw_Y yX12_goFurther M_Rf_goFurther 1 ∧ Cond.instanceMethod yX12_goFurther ∈ wsL_law ∧ Cond.selects (yX12_goFurther).cls yX12_goFurther yX12_goFurther ∈ wsL_law := ⟨⟨aw_in_61 _ (List.mem_of_getElem? (i := 13) rfl), aw_in_0 _ (List.mem_of_getElem? (i := 5) rfl), by decide +kernel, by decide +kernel, by decide +kernel⟩, aw_in_61 _ (List.mem_of_getElem? (i := 11) rfl), aw_in_61 _ (List.mem_of_getElem? (i := 12) rfl)⟩
theorem yy_Rf_goOn : aw_Y yX12_goOn M_Rf_goOn 3 ∧ Cond.instanceMethod yX12_goOn ∈ wsL_law ∧ Cond.selects (yX12_goOn).cls yX12_goOn yX12_goOn ∈ wsL_law := ⟨⟨aw_in_61 _ (List.mem_of_getElem? (i := 17) rfl), aw_in_0 _ (List.mem_of_getElem? (i := 5) rfl), by decide +kernel, by decide +kernel, by decide +kernel⟩, aw_in_61 _ (List.mem_of_getElem? (i := 15) rfl), aw_in_61 _ (List.mem_of_getElem? (i := 16) rfl)⟩
theorem yy_Rf_goesTo : aw_Y yX12_goesTo M_Rf_goesTo 1 ∧ Cond.instanceMethod yX12_goesTo ∈ wsL_law ∧ Cond.selects (yX12_goesTo).cls yX12_goesTo yX12_goesTo ∈ wsL_law := ⟨⟨aw_in_49 _ (List.mem_of_getElem? (i := 16) rfl), aw_in_0 _ (List.mem_of_getElem? (i := 5) rfl), by decide +kernel, by decide +kernel, by decide +kernel⟩, aw_in_49 _ (List.mem_of_getElem? (i := 14) rfl), aw_in_49 _ (List.mem_of_getElem? (i := 15) rfl)⟩
theorem yy_Rf_has : aw_Y yX12_has M_Rf_has 2 ∧ Cond.static yX12_has ∈ wsL_law := ⟨⟨aw_in_58 _ (List.mem_of_getElem? (i := 20) rfl), aw_in_0 _ (List.mem_of_getElem? (i := 5) rfl), by decide +kernel, by decide +kernel, by decide +kernel⟩, aw_in_58 _ (List.mem_of_getElem? (i := 19) rfl)⟩
theorem yy_Rf_here : aw_Y yX12_here M_Rf_here 0 ∧ Cond.instanceMethod yX12_here ∈ wsL_law ∧ Cond.selects (yX12_here).cls yX12_here yX12_here ∈ wsL_law := ⟨⟨aw_in_28 _ (List.mem_of_getElem? (i := 6) rfl), aw_in_0 _ (List.mem_of_getElem? (i := 5) rfl), by decide +kernel, by decide +kernel, by decide +kernel⟩, aw_in_28 _ (List.mem_of_getElem? (i := 4) rfl), aw_in_28 _ (List.mem_of_getElem? (i := 5) rfl)⟩
theorem yy_Rf_isDead : aw_Y yX12_isDead M_Rf_isDead 1 ∧ Cond.instanceMethod yX12_isDead ∈ wsL_law ∧ Cond.selects (yX12_isDead).cls yX12_isDead yX12_isDead ∈ wsL_law := ⟨⟨aw_in_52 _ (List.mem_of_getElem? (i := 16) rfl), aw_in_0 _ (List.mem_of_getElem? (i := 5) rfl), by decide +kernel, by decide +kernel, by decide +kernel⟩, aw_in_52 _ (List.mem_of_getElem? (i := 14) rfl), aw_in_52 _ (List.mem_of_getElem? (i := 15) rfl)⟩
theorem yy_Rf_isExpression : aw_Y yX12_isExpression M_Rf_isExpression 1 ∧ Cond.instanceMethod yX12_isExpression ∈ wsL_law ∧ Cond.selects (yX12_isExpression).cls yX12_isExpression yX12_isExpression ∈ wsL_law := ⟨⟨aw_in_39 _ (List.mem_of_getElem? (i := 14) rfl), aw_in_0 _ (List.mem_of_getElem? (i := 5) rfl), by decide +kernel, by decide +kernel, by decide +kernel⟩, aw_in_39 _ (List.mem_of_getElem? (i := 12) rfl), aw_in_39 _ (List.mem_of_getElem? (i := 13) rfl)⟩
theorem yy_Rf_isFew : aw_Y yX12_isFew M_Rf_isFew 2 ∧ Cond.instanceMethod yX12_isFew ∈ wsL_law ∧ Cond.selects (yX12_isFew).cls yX12_isFew yX12_isFew ∈ wsL_law := ⟨⟨aw_in_59 _ (List.mem_of_getElem? (i := 0) rfl), aw_in_0 _ (List.mem_of_getElem? (i := 5) rfl), by decide +kernel, by decide +kernel, by decide +kernel⟩, aw_in_58 _ (List.mem_of_getElem? (i := 22) rfl), aw_in_58 _ (List.mem_of_getElem? (i := 23) rfl)⟩
theorem yy_Rf_isFigure : aw_Y yX12_isFigure M_Rf_isFigure 1 ∧ Cond.static yX12_isFigure ∈ wsL_law := ⟨⟨aw_in_29 _ (List.mem_of_getElem? (i := 1) rfl), aw_in_0 _ (List.mem_of_getElem? (i := 5) rfl), by decide +kernel, by decide +kernel, by decide +kernel⟩, aw_in_29 _ (List.mem_of_getElem? (i := 0) rfl)⟩
theorem yy_Rf_isHead : aw_Y yX12_isHead M_Rf_isHead 1 ∧ Cond.instanceMethod yX12_isHead ∈ wsL_law ∧ Cond.selects (yX12_isHead).cls yX12_isHead yX12_isHead ∈ wsL_law := ⟨⟨aw_in_35 _ (List.mem_of_getElem? (i := 21) rfl), aw_in_0 _ (List.mem_of_getElem? (i := 5) rfl), by decide +kernel, by decide +kernel, by decide +kernel⟩, aw_in_35 _ (List.mem_of_getElem? (i := 19) rfl), aw_in_35 _ (List.mem_of_getElem? (i := 20) rfl)⟩
theorem yy_Rf_isHow : aw_Y yX12_isHow M_Rf_isHow 1 ∧ Cond.static yX12_isHow ∈ wsL_law := ⟨⟨aw_in_41 _ (List.mem_of_getElem? (i := 12) rfl), aw_in_0 _ (List.mem_of_getElem? (i := 5) rfl), by decide +kernel, by decide +kernel, by decide +kernel⟩, aw_in_41 _ (List.mem_of_getElem? (i := 11) rfl)⟩
theorem yy_Rf_isIn : aw_Y yX12_isIn M_Rf_isIn 3 ∧ Cond.static yX12_isIn ∈ wsL_law := ⟨⟨aw_in_10 _ (List.mem_of_getElem? (i := 17) rfl), aw_in_0 _ (List.mem_of_getElem? (i := 5) rfl), by decide +kernel, by decide +kernel, by decide +kernel⟩, aw_in_10 _ (List.mem_of_getElem? (i := 16) rfl)⟩
theorem yy_Rf_isLast : aw_Y yX12_isLast M_Rf_isLast 1 ∧ Cond.instanceMethod yX12_isLast ∈ wsL_law ∧ Cond.selects (yX12_isLast).cls yX12_isLast yX12_isLast ∈ wsL_law := ⟨⟨aw_in_31 _ (List.mem_of_getElem? (i := 23) rfl), aw_in_0 _ (List.mem_of_getElem? (i := 5) rfl), by decide +kernel, by decide +kernel, by decide +kernel⟩, aw_in_31 _ (List.mem_of_getElem? (i := 21) rfl), aw_in_31 _ (List.mem_of_getElem? (i := 22) rfl)⟩
theorem yy_Rf_isLetter : aw_Y yX12_isLetter M_Rf_isLetter 1 ∧ Cond.static yX12_isLetter ∈ wsL_law := ⟨⟨aw_in_28 _ (List.mem_of_getElem? (i := 9) rfl), aw_in_0 _ (List.mem_of_getElem? (i := 5) rfl), by decide +kernel, by decide +kernel, by decide +kernel⟩, aw_in_28 _ (List.mem_of_getElem? (i := 8) rfl)⟩
theorem yy_Rf_isNode : aw_Y yX12_isNode M_Rf_isNode 1 ∧ Cond.instanceMethod yX12_isNode ∈ wsL_law ∧ Cond.selects (yX12_isNode).cls yX12_isNode yX12_isNode ∈ wsL_law := ⟨⟨aw_in_38 _ (List.mem_of_getElem? (i := 15) rfl), aw_in_0 _ (List.mem_of_getElem? (i := 5) rfl), by decide +kernel, by decide +kernel, by decide +kernel⟩, aw_in_38 _ (List.mem_of_getElem? (i := 13) rfl), aw_in_38 _ (List.mem_of_getElem? (i := 14) rfl)⟩
theorem yy_Rf_isOver : aw_Y yX12_isOver M_Rf_isOver 2 ∧ Cond.instanceMethod yX12_isOver ∈ wsL_law ∧ Cond.selects (yX12_isOver).cls yX12_isOver yX12_isOver ∈ wsL_law := ⟨⟨aw_in_36 _ (List.mem_of_getElem? (i := 1) rfl), aw_in_0 _ (List.mem_of_getElem? (i := 5) rfl), by decide +kernel, by decide +kernel, by decide +kernel⟩, aw_in_35 _ (List.mem_of_getElem? (i := 23) rfl), aw_in_36 _ (List.mem_of_getElem? (i := 0) rfl)⟩
theorem yy_Rf_isRight : aw_Y yX12_isRight M_Rf_isRight 2 ∧ Cond.instanceMethod yX12_isRight ∈ wsL_law ∧ Cond.selects (yX12_isRight).cls yX12_isRight yX12_isRight ∈ wsL_law := ⟨⟨aw_in_58 _ (List.mem_of_getElem? (i := 17) rfl), aw_in_0 _ (List.mem_of_getElem? (i := 5) rfl), by decide +kernel, by decide +kernel, by decide +kernel⟩, aw_in_58 _ (List.mem_of_getElem? (i := 15) rfl), aw_in_58 _ (List.mem_of_getElem? (i := 16) rfl)⟩
theorem yy_Rf_isRisky : aw_Y yX12_isRisky M_Rf_isRisky 1 ∧ Cond.instanceMethod yX12_isRisky ∈ wsL_law ∧ Cond.selects (yX12_isRisky).cls yX12_isRisky yX12_isRisky ∈ wsL_law := ⟨⟨aw_in_33 _ (List.mem_of_getElem? (i := 6) rfl), aw_in_0 _ (List.mem_of_getElem? (i := 5) rfl), by decide +kernel, by decide +kernel, by decide +kernel⟩, aw_in_33 _ (List.mem_of_getElem? (i := 4) rfl), aw_in_33 _ (List.mem_of_getElem? (i := 5) rfl)⟩
theorem yy_Rf_isSign : aw_Y yX12_isSign M_Rf_isSign 1 ∧ Cond.static yX12_isSign ∈ wsL_law := ⟨⟨aw_in_29 _ (List.mem_of_getElem? (i := 12) rfl), aw_in_0 _ (List.mem_of_getElem? (i := 5) rfl), by decide +kernel, by decide +kernel, by decide +kernel⟩, aw_in_29 _ (List.mem_of_getElem? (i := 11) rfl)⟩
theorem yy_Rf_lay : aw_Y yX12_lay M_Rf_lay 0 ∧ Cond.instanceMethod yX12_lay ∈ wsL_law ∧ Cond.selects (yX12_lay).cls yX12_lay yX12_lay ∈ wsL_law := ⟨⟨aw_in_30 _ (List.mem_of_getElem? (i := 8) rfl), aw_in_0 _ (List.mem_of_getElem? (i := 5) rfl), by decide +kernel, by decide +kernel, by decide +kernel⟩, aw_in_30 _ (List.mem_of_getElem? (i := 6) rfl), aw_in_30 _ (List.mem_of_getElem? (i := 7) rfl)⟩
theorem yy_Rf_lay1 : aw_Y yX12_lay1 M_Rf_lay1 1 ∧ Cond.instanceMethod yX12_lay1 ∈ wsL_law ∧ Cond.selects (yX12_lay1).cls yX12_lay1 yX12_lay1 ∈ wsL_law := ⟨⟨aw_in_64 _ (List.mem_of_getElem? (i := 10) rfl), aw_in_0 _ (List.mem_of_getElem? (i := 5) rfl), by decide +kernel, by decide +kernel, by decide +kernel⟩, aw_in_64 _ (List.mem_of_getElem? (i := 8) rfl), aw_in_64 _ (List.mem_of_getElem? (i := 9) rfl)⟩
theorem yy_Rf_layAhead : aw_Y yX12_layAhead M_Rf_layAhead 2 ∧ Cond.instanceMethod yX12_layAhead ∈ wsL_law ∧ Cond.selects (yX12_layAhead).cls yX12_layAhead yX12_layAhead ∈ wsL_law := ⟨⟨aw_in_33 _ (List.mem_of_getElem? (i := 10) rfl), aw_in_0 _ (List.mem_of_getElem? (i := 5) rfl), by decide +kernel, by decide +kernel, by decide +kernel⟩, aw_in_33 _ (List.mem_of_getElem? (i := 8) rfl), aw_in_33 _ (List.mem_of_getElem? (i := 9) rfl)⟩
theorem yy_Rf_layAlive : aw_Y yX12_layAlive M_Rf_layAlive 2 ∧ Cond.instanceMethod yX12_layAlive ∈ wsL_law ∧ Cond.selects (yX12_layAlive).cls yX12_layAlive yX12_layAlive ∈ wsL_law := ⟨⟨aw_in_34 _ (List.mem_of_getElem? (i := 17) rfl), aw_in_0 _ (List.mem_of_getElem? (i := 5) rfl), by decide +kernel, by decide +kernel, by decide +kernel⟩, aw_in_34 _ (List.mem_of_getElem? (i := 15) rfl), aw_in_34 _ (List.mem_of_getElem? (i := 16) rfl)⟩
theorem yy_Rf_layBehind : aw_Y yX12_layBehind M_Rf_layBehind 2 ∧ Cond.instanceMethod yX12_layBehind ∈ wsL_law ∧ Cond.selects (yX12_layBehind).cls yX12_layBehind yX12_layBehind ∈ wsL_law := ⟨⟨aw_in_33 _ (List.mem_of_getElem? (i := 22) rfl), aw_in_0 _ (List.mem_of_getElem? (i := 5) rfl), by decide +kernel, by decide +kernel, by decide +kernel⟩, aw_in_33 _ (List.mem_of_getElem? (i := 20) rfl), aw_in_33 _ (List.mem_of_getElem? (i := 21) rfl)⟩
theorem yy_Rf_layCome : aw_Y yX12_layCome M_Rf_layCome 0 ∧ Cond.instanceMethod yX12_layCome ∈ wsL_law ∧ Cond.selects (yX12_layCome).cls yX12_layCome yX12_layCome ∈ wsL_law := ⟨⟨aw_in_30 _ (List.mem_of_getElem? (i := 15) rfl), aw_in_0 _ (List.mem_of_getElem? (i := 5) rfl), by decide +kernel, by decide +kernel, by decide +kernel⟩, aw_in_30 _ (List.mem_of_getElem? (i := 13) rfl), aw_in_30 _ (List.mem_of_getElem? (i := 14) rfl)⟩
theorem yy_Rf_layComing : aw_Y yX12_layComing M_Rf_layComing 1 ∧ Cond.instanceMethod yX12_layComing ∈ wsL_law ∧ Cond.selects (yX12_layComing).cls yX12_layComing yX12_layComing ∈ wsL_law := ⟨⟨aw_in_36 _ (List.mem_of_getElem? (i := 5) rfl), aw_in_0 _ (List.mem_of_getElem? (i := 5) rfl), by decide +kernel, by decide +kernel, by decide +kernel⟩, aw_in_36 _ (List.mem_of_getElem? (i := 3) rfl), aw_in_36 _ (List.mem_of_getElem? (i := 4) rfl)⟩
theorem yy_Rf_layDeep : aw_Y yX12_layDeep M_Rf_layDeep 0 ∧ Cond.instanceMethod yX12_layDeep ∈ wsL_law ∧ Cond.selects (yX12_layDeep).cls yX12_layDeep yX12_layDeep ∈ wsL_law := ⟨⟨aw_in_35 _ (List.mem_of_getElem? (i := 16) rfl), aw_in_0 _ (List.mem_of_getElem? (i := 5) rfl), by decide +kernel, by decide +kernel, by decide +kernel⟩, aw_in_35 _ (List.mem_of_getElem? (i := 14) rfl), aw_in_35 _ (List.mem_of_getElem? (i := 15) rfl)⟩
theorem yy_Rf_layEarly : aw_Y yX12_layEarly M_Rf_layEarly 1 ∧ Cond.instanceMethod yX12_layEarly ∈ wsL_law ∧ Cond.selects (yX12_layEarly).cls yX12_layEarly yX12_layEarly ∈ wsL_law := ⟨⟨aw_in_34 _ (List.mem_of_getElem? (i := 6) rfl), aw_in_0 _ (List.mem_of_getElem? (i := 5) rfl), by decide +kernel, by decide +kernel, by decide +kernel⟩, aw_in_34 _ (List.mem_of_getElem? (i := 4) rfl), aw_in_34 _ (List.mem_of_getElem? (i := 5) rfl)⟩
theorem yy_Rf_layEnd : aw_Y yX12_layEnd M_Rf_layEnd 2 ∧ Cond.instanceMethod yX12_layEnd ∈ wsL_law ∧ Cond.selects (yX12_layEnd).cls yX12_layEnd yX12_layEnd ∈ wsL_law := ⟨⟨aw_in_31 _ (List.mem_of_getElem? (i := 7) rfl), aw_in_0 _ (List.mem_of_getElem? (i := 5) rfl), by decide +kernel, by decide +kernel, by decide +kernel⟩, aw_in_31 _ (List.mem_of_getElem? (i := 5) rfl), aw_in_31 _ (List.mem_of_getElem? (i := 6) rfl)⟩
theorem yy_Rf_layFacts : aw_Y yX12_layFacts M_Rf_layFacts 1 ∧ Cond.instanceMethod yX12_layFacts ∈ wsL_law ∧ Cond.selects (yX12_layFacts).cls yX12_layFacts yX12_layFacts ∈ wsL_law := ⟨⟨aw_in_32 _ (List.mem_of_getElem? (i := 3) rfl), aw_in_0 _ (List.mem_of_getElem? (i := 5) rfl), by decide +kernel, by decide +kernel, by decide +kernel⟩, aw_in_32 _ (List.mem_of_getElem? (i := 1) rfl), aw_in_32 _ (List.mem_of_getElem? (i := 2) rfl)⟩
theorem yy_Rf_layLate : aw_Y yX12_layLate M_Rf_layLate 1 ∧ Cond.instanceMethod yX12_layLate ∈ wsL_law ∧ Cond.selects (yX12_layLate).cls yX12_layLate yX12_layLate ∈ wsL_law := ⟨⟨aw_in_34 _ (List.mem_of_getElem? (i := 10) rfl), aw_in_0 _ (List.mem_of_getElem? (i := 5) rfl), by decide +kernel, by decide +kernel, by decide +kernel⟩, aw_in_34 _ (List.mem_of_getElem? (i := 8) rfl), aw_in_34 _ (List.mem_of_getElem? (i := 9) rfl)⟩
theorem yy_Rf_layLive : aw_Y yX12_layLive M_Rf_layLive 0 ∧ Cond.instanceMethod yX12_layLive ∈ wsL_law ∧ Cond.selects (yX12_layLive).cls yX12_layLive yX12_layLive ∈ wsL_law := ⟨⟨aw_in_34 _ (List.mem_of_getElem? (i := 21) rfl), aw_in_0 _ (List.mem_of_getElem? (i := 5) rfl), by decide +kernel, by decide +kernel, by decide +kernel⟩, aw_in_34 _ (List.mem_of_getElem? (i := 19) rfl), aw_in_34 _ (List.mem_of_getElem? (i := 20) rfl)⟩
theorem yy_Rf_layMaybe : aw_Y yX12_layMaybe M_Rf_layMaybe 1 ∧ Cond.instanceMethod yX12_layMaybe ∈ wsL_law ∧ Cond.selects (yX12_layMaybe).cls yX12_layMaybe yX12_layMaybe ∈ wsL_law := ⟨⟨aw_in_53 _ (List.mem_of_getElem? (i := 5) rfl), aw_in_0 _ (List.mem_of_getElem? (i := 5) rfl), by decide +kernel, by decide +kernel, by decide +kernel⟩, aw_in_53 _ (List.mem_of_getElem? (i := 3) rfl), aw_in_53 _ (List.mem_of_getElem? (i := 4) rfl)⟩
theorem yy_Rf_layNames : aw_Y yX12_layNames M_Rf_layNames 1 ∧ Cond.instanceMethod yX12_layNames ∈ wsL_law ∧ Cond.selects (yX12_layNames).cls yX12_layNames yX12_layNames ∈ wsL_law := ⟨⟨aw_in_43 _ (List.mem_of_getElem? (i := 20) rfl), aw_in_0 _ (List.mem_of_getElem? (i := 5) rfl), by decide +kernel, by decide +kernel, by decide +kernel⟩, aw_in_43 _ (List.mem_of_getElem? (i := 18) rfl), aw_in_43 _ (List.mem_of_getElem? (i := 19) rfl)⟩
theorem yy_Rf_layNode : aw_Y yX12_layNode M_Rf_layNode 3 ∧ Cond.instanceMethod yX12_layNode ∈ wsL_law ∧ Cond.selects (yX12_layNode).cls yX12_layNode yX12_layNode ∈ wsL_law := ⟨⟨aw_in_31 _ (List.mem_of_getElem? (i := 3) rfl), aw_in_0 _ (List.mem_of_getElem? (i := 5) rfl), by decide +kernel, by decide +kernel, by decide +kernel⟩, aw_in_31 _ (List.mem_of_getElem? (i := 1) rfl), aw_in_31 _ (List.mem_of_getElem? (i := 2) rfl)⟩
theorem yy_Rf_layNodes : aw_Y yX12_layNodes M_Rf_layNodes 0 ∧ Cond.instanceMethod yX12_layNodes ∈ wsL_law ∧ Cond.selects (yX12_layNodes).cls yX12_layNodes yX12_layNodes ∈ wsL_law := ⟨⟨aw_in_30 _ (List.mem_of_getElem? (i := 23) rfl), aw_in_0 _ (List.mem_of_getElem? (i := 5) rfl), by decide +kernel, by decide +kernel, by decide +kernel⟩, aw_in_30 _ (List.mem_of_getElem? (i := 21) rfl), aw_in_30 _ (List.mem_of_getElem? (i := 22) rfl)⟩
theorem yy_Rf_layOver : aw_Y yX12_layOver M_Rf_layOver 0 ∧ Cond.instanceMethod yX12_layOver ∈ wsL_law ∧ Cond.selects (yX12_layOver).cls yX12_layOver yX12_layOver ∈ wsL_law := ⟨⟨aw_in_35 _ (List.mem_of_getElem? (i := 12) rfl), aw_in_0 _ (List.mem_of_getElem? (i := 5) rfl), by decide +kernel, by decide +kernel, by decide +kernel⟩, aw_in_35 _ (List.mem_of_getElem? (i := 10) rfl), aw_in_35 _ (List.mem_of_getElem? (i := 11) rfl)⟩
theorem yy_Rf_least : aw_Y yX12_least M_Rf_least 2 ∧ Cond.instanceMethod yX12_least ∈ wsL_law ∧ Cond.selects (yX12_least).cls yX12_least yX12_least ∈ wsL_law := ⟨⟨aw_in_50 _ (List.mem_of_getElem? (i := 18) rfl), aw_in_0 _ (List.mem_of_getElem? (i := 5) rfl), by decide +kernel, by decide +kernel, by decide +kernel⟩, aw_in_50 _ (List.mem_of_getElem? (i := 16) rfl), aw_in_50 _ (List.mem_of_getElem? (i := 17) rfl)⟩
theorem yy_Rf_lets : aw_Y yX12_lets M_Rf_lets 3 ∧ Cond.instanceMethod yX12_lets ∈ wsL_law ∧ Cond.selects (yX12_lets).cls yX12_lets yX12_lets ∈ wsL_law := ⟨⟨aw_in_34 _ (List.mem_of_getElem? (i := 2) rfl), aw_in_0 _ (List.mem_of_getElem? (i := 5) rfl), by decide +kernel, by decide +kernel, by decide +kernel⟩, aw_in_34 _ (List.mem_of_getElem? (i := 0) rfl), aw_in_34 _ (List.mem_of_getElem? (i := 1) rfl)⟩
theorem yy_Rf_letterOf : aw_Y yX12_letterOf M_Rf_letterOf 1 ∧ Cond.instanceMethod yX12_letterOf ∈ wsL_law ∧ Cond.selects (yX12_letterOf).cls yX12_letterOf yX12_letterOf ∈ wsL_law := ⟨⟨aw_in_38 _ (List.mem_of_getElem? (i := 19) rfl), aw_in_0 _ (List.mem_of_getElem? (i := 5) rfl), by decide +kernel, by decide +kernel, by decide +kernel⟩, aw_in_38 _ (List.mem_of_getElem? (i := 17) rfl), aw_in_38 _ (List.mem_of_getElem? (i := 18) rfl)⟩
theorem yy_Rf_lifeOf : aw_Y yX12_lifeOf M_Rf_lifeOf 2 ∧ Cond.instanceMethod yX12_lifeOf ∈ wsL_law ∧ Cond.selects (yX12_lifeOf).cls yX12_lifeOf yX12_lifeOf ∈ wsL_law := ⟨⟨aw_in_59 _ (List.mem_of_getElem? (i := 8) rfl), aw_in_0 _ (List.mem_of_getElem? (i := 5) rfl), by decide +kernel, by decide +kernel, by decide +kernel⟩, aw_in_59 _ (List.mem_of_getElem? (i := 6) rfl), aw_in_59 _ (List.mem_of_getElem? (i := 7) rfl)⟩
theorem yy_Rf_liveBehind : aw_Y yX12_liveBehind M_Rf_liveBehind 1 ∧ Cond.instanceMethod yX12_liveBehind ∈ wsL_law ∧ Cond.selects (yX12_liveBehind).cls yX12_liveBehind yX12_liveBehind ∈ wsL_law := ⟨⟨aw_in_35 _ (List.mem_of_getElem? (i := 8) rfl), aw_in_0 _ (List.mem_of_getElem? (i := 5) rfl), by decide +kernel, by decide +kernel, by decide +kernel⟩, aw_in_35 _ (List.mem_of_getElem? (i := 6) rfl), aw_in_35 _ (List.mem_of_getElem? (i := 7) rfl)⟩
theorem yy_Rf_overBy : aw_Y yX12_overBy M_Rf_overBy 3 ∧ Cond.instanceMethod yX12_overBy ∈ wsL_law ∧ Cond.selects (yX12_overBy).cls yX12_overBy yX12_overBy ∈ wsL_law := ⟨⟨aw_in_59 _ (List.mem_of_getElem? (i := 4) rfl), aw_in_0 _ (List.mem_of_getElem? (i := 5) rfl), by decide +kernel, by decide +kernel, by decide +kernel⟩, aw_in_59 _ (List.mem_of_getElem? (i := 2) rfl), aw_in_59 _ (List.mem_of_getElem? (i := 3) rfl)⟩
theorem yy_Rf_put : aw_Y yX12_put M_Rf_put 2 ∧ Cond.instanceMethod yX12_put ∈ wsL_law ∧ Cond.selects (yX12_put).cls yX12_put yX12_put ∈ wsL_law := ⟨⟨aw_in_27 _ (List.mem_of_getElem? (i := 14) rfl), aw_in_0 _ (List.mem_of_getElem? (i := 5) rfl), by decide +kernel, by decide +kernel, by decide +kernel⟩, aw_in_27 _ (List.mem_of_getElem? (i := 12) rfl), aw_in_27 _ (List.mem_of_getElem? (i := 13) rfl)⟩
theorem yy_Rf_putsIn : aw_Y yX12_putsIn M_Rf_putsIn 2 ∧ Cond.instanceMethod yX12_putsIn ∈ wsL_law ∧ Cond.selects (yX12_putsIn).cls yX12_putsIn yX12_putsIn ∈ wsL_law := ⟨⟨aw_in_48 _ (List.mem_of_getElem? (i := 23) rfl), aw_in_0 _ (List.mem_of_getElem? (i := 5) rfl), by decide +kernel, by decide +kernel, by decide +kernel⟩, aw_in_48 _ (List.mem_of_getElem? (i := 21) rfl), aw_in_48 _ (List.mem_of_getElem? (i := 22) rfl)⟩
theorem yy_Rf_read : aw_Y yX12_read M_Rf_read 1 ∧ Cond.instanceMethod yX12_read ∈ wsL_law ∧ Cond.selects (yX12_read).cls yX12_read yX12_read ∈ wsL_law := ⟨⟨aw_in_28 _ (List.mem_of_getElem? (i := 2) rfl), aw_in_0 _ (List.mem_of_getElem? (i := 5) rfl), by decide +kernel, by decide +kernel, by decide +kernel⟩, aw_in_28 _ (List.mem_of_getElem? (i := 0) rfl), aw_in_28 _ (List.mem_of_getElem? (i := 1) rfl)⟩
theorem yy_Rf_readA : aw_Y yX12_readA M_Rf_readA 0 ∧ Cond.instanceMethod yX12_readA ∈ wsL_law ∧ Cond.selects (yX12_readA).cls yX12_readA yX12_readA ∈ wsL_law := ⟨⟨aw_in_28 _ (List.mem_of_getElem? (i := 18) rfl), aw_in_0 _ (List.mem_of_getElem? (i := 5) rfl), by decide +kernel, by decide +kernel, by decide +kernel⟩, aw_in_28 _ (List.mem_of_getElem? (i := 16) rfl), aw_in_28 _ (List.mem_of_getElem? (i := 17) rfl)⟩
theorem yy_Rf_readBlock : aw_Y yX12_readBlock M_Rf_readBlock 0 ∧ Cond.instanceMethod yX12_readBlock ∈ wsL_law ∧ Cond.selects (yX12_readBlock).cls yX12_readBlock yX12_readBlock ∈ wsL_law := ⟨⟨aw_in_27 _ (List.mem_of_getElem? (i := 22) rfl), aw_in_0 _ (List.mem_of_getElem? (i := 5) rfl), by decide +kernel, by decide +kernel, by decide +kernel⟩, aw_in_27 _ (List.mem_of_getElem? (i := 20) rfl), aw_in_27 _ (List.mem_of_getElem? (i := 21) rfl)⟩
theorem yy_Rf_readDigits : aw_Y yX12_readDigits M_Rf_readDigits 1 ∧ Cond.instanceMethod yX12_readDigits ∈ wsL_law ∧ Cond.selects (yX12_readDigits).cls yX12_readDigits yX12_readDigits ∈ wsL_law := ⟨⟨aw_in_28 _ (List.mem_of_getElem? (i := 22) rfl), aw_in_0 _ (List.mem_of_getElem? (i := 5) rfl), by decide +kernel, by decide +kernel, by decide +kernel⟩, aw_in_28 _ (List.mem_of_getElem? (i := 20) rfl), aw_in_28 _ (List.mem_of_getElem? (i := 21) rfl)⟩
theorem yy_Rf_readEnd : aw_Y yX12_readEnd M_Rf_readEnd 0 ∧ Cond.instanceMethod yX12_readEnd ∈ wsL_law ∧ Cond.selects (yX12_readEnd).cls yX12_readEnd yX12_readEnd ∈ wsL_law := ⟨⟨aw_in_29 _ (List.mem_of_getElem? (i := 20) rfl), aw_in_0 _ (List.mem_of_getElem? (i := 5) rfl), by decide +kernel, by decide +kernel, by decide +kernel⟩, aw_in_29 _ (List.mem_of_getElem? (i := 18) rfl), aw_in_29 _ (List.mem_of_getElem? (i := 19) rfl)⟩
theorem yy_Rf_readNumber : aw_Y yX12_readNumber M_Rf_readNumber 2 ∧ Cond.instanceMethod yX12_readNumber ∈ wsL_law ∧ Cond.selects (yX12_readNumber).cls yX12_readNumber yX12_readNumber ∈ wsL_law := ⟨⟨aw_in_30 _ (List.mem_of_getElem? (i := 0) rfl), aw_in_0 _ (List.mem_of_getElem? (i := 5) rfl), by decide +kernel, by decide +kernel, by decide +kernel⟩, aw_in_29 _ (List.mem_of_getElem? (i := 22) rfl), aw_in_29 _ (List.mem_of_getElem? (i := 23) rfl)⟩
theorem yy_Rf_readProgram : aw_Y yX12_readProgram M_Rf_readProgram 0 ∧ Cond.instanceMethod yX12_readProgram ∈ wsL_law ∧ Cond.selects (yX12_readProgram).cls yX12_readProgram yX12_readProgram ∈ wsL_law := ⟨⟨aw_in_27 _ (List.mem_of_getElem? (i := 9) rfl), aw_in_0 _ (List.mem_of_getElem? (i := 5) rfl), by decide +kernel, by decide +kernel, by decide +kernel⟩, aw_in_27 _ (List.mem_of_getElem? (i := 7) rfl), aw_in_27 _ (List.mem_of_getElem? (i := 8) rfl)⟩
theorem yy_Rf_readStatement : aw_Y yX12_readStatement M_Rf_readStatement 0 ∧ Cond.instanceMethod yX12_readStatement ∈ wsL_law ∧ Cond.selects (yX12_readStatement).cls yX12_readStatement yX12_readStatement ∈ wsL_law := ⟨⟨aw_in_28 _ (List.mem_of_getElem? (i := 13) rfl), aw_in_0 _ (List.mem_of_getElem? (i := 5) rfl), by decide +kernel, by decide +kernel, by decide +kernel⟩, aw_in_28 _ (List.mem_of_getElem? (i := 11) rfl), aw_in_28 _ (List.mem_of_getElem? (i := 12) rfl)⟩
theorem yy_Rf_readWorth : aw_Y yX12_readWorth M_Rf_readWorth 1 ∧ Cond.instanceMethod yX12_readWorth ∈ wsL_law ∧ Cond.selects (yX12_readWorth).cls yX12_readWorth yX12_readWorth ∈ wsL_law := ⟨⟨aw_in_29 _ (List.mem_of_getElem? (i := 9) rfl), aw_in_0 _ (List.mem_of_getElem? (i := 5) rfl), by decide +kernel, by decide +kernel, by decide +kernel⟩, aw_in_29 _ (List.mem_of_getElem? (i := 7) rfl), aw_in_29 _ (List.mem_of_getElem? (i := 8) rfl)⟩
theorem yy_Rf_reads : aw_Y yX12_reads M_Rf_reads 1 ∧ Cond.instanceMethod yX12_reads ∈ wsL_law ∧ Cond.selects (yX12_reads).cls yX12_reads yX12_reads ∈ wsL_law := ⟨⟨aw_in_35 _ (List.mem_of_getElem? (i := 1) rfl), aw_in_0 _ (List.mem_of_getElem? (i := 5) rfl), by decide +kernel, by decide +kernel, by decide +kernel⟩, aw_in_34 _ (List.mem_of_getElem? (i := 23) rfl), aw_in_35 _ (List.mem_of_getElem? (i := 0) rfl)⟩
theorem yy_Rf_runNow : aw_Y yX12_runNow M_Rf_runNow 1 ∧ Cond.instanceMethod yX12_runNow ∈ wsL_law ∧ Cond.selects (yX12_runNow).cls yX12_runNow yX12_runNow ∈ wsL_law := ⟨⟨aw_in_48 _ (List.mem_of_getElem? (i := 19) rfl), aw_in_0 _ (List.mem_of_getElem? (i := 5) rfl), by decide +kernel, by decide +kernel, by decide +kernel⟩, aw_in_48 _ (List.mem_of_getElem? (i := 17) rfl), aw_in_48 _ (List.mem_of_getElem? (i := 18) rfl)⟩
theorem yy_Rf_set : aw_Y yX12_set M_Rf_set 4 ∧ Cond.instanceMethod yX12_set ∈ wsL_law ∧ Cond.selects (yX12_set).cls yX12_set yX12_set ∈ wsL_law := ⟨⟨aw_in_32 _ (List.mem_of_getElem? (i := 15) rfl), aw_in_0 _ (List.mem_of_getElem? (i := 5) rfl), by decide +kernel, by decide +kernel, by decide +kernel⟩, aw_in_32 _ (List.mem_of_getElem? (i := 13) rfl), aw_in_32 _ (List.mem_of_getElem? (i := 14) rfl)⟩
theorem yy_Rf_so : aw_Y yX12_so M_Rf_so 3 ∧ Cond.instanceMethod yX12_so ∈ wsL_law ∧ Cond.selects (yX12_so).cls yX12_so yX12_so ∈ wsL_law := ⟨⟨aw_in_33 _ (List.mem_of_getElem? (i := 14) rfl), aw_in_0 _ (List.mem_of_getElem? (i := 5) rfl), by decide +kernel, by decide +kernel, by decide +kernel⟩, aw_in_33 _ (List.mem_of_getElem? (i := 12) rfl), aw_in_33 _ (List.mem_of_getElem? (i := 13) rfl)⟩
theorem yy_Rf_split : aw_Y yX12_split M_Rf_split 0 ∧ Cond.instanceMethod yX12_split ∈ wsL_law ∧ Cond.selects (yX12_split).cls yX12_split yX12_split ∈ wsL_law := ⟨⟨aw_in_31 _ (List.mem_of_getElem? (i := 15) rfl), aw_in_0 _ (List.mem_of_getElem? (i := 5) rfl), by decide +kernel, by decide +kernel, by decide +kernel⟩, aw_in_31 _ (List.mem_of_getElem? (i := 13) rfl), aw_in_31 _ (List.mem_of_getElem? (i := 14) rfl)⟩
theorem yy_Rf_staysAhead : aw_Y yX12_staysAhead M_Rf_staysAhead 3 ∧ Cond.instanceMethod yX12_staysAhead ∈ wsL_law ∧ Cond.selects (yX12_staysAhead).cls yX12_staysAhead yX12_staysAhead ∈ wsL_law := ⟨⟨aw_in_33 _ (List.mem_of_getElem? (i := 18) rfl), aw_in_0 _ (List.mem_of_getElem? (i := 5) rfl), by decide +kernel, by decide +kernel, by decide +kernel⟩, aw_in_33 _ (List.mem_of_getElem? (i := 16) rfl), aw_in_33 _ (List.mem_of_getElem? (i := 17) rfl)⟩
theorem yy_Rf_takes : aw_Y yX12_takes M_Rf_takes 1 ∧ Cond.instanceMethod yX12_takes ∈ wsL_law ∧ Cond.selects (yX12_takes).cls yX12_takes yX12_takes ∈ wsL_law := ⟨⟨aw_in_29 _ (List.mem_of_getElem? (i := 5) rfl), aw_in_0 _ (List.mem_of_getElem? (i := 5) rfl), by decide +kernel, by decide +kernel, by decide +kernel⟩, aw_in_29 _ (List.mem_of_getElem? (i := 3) rfl), aw_in_29 _ (List.mem_of_getElem? (i := 4) rfl)⟩
theorem yy_Rf_works : aw_Y yX12_works M_Rf_works 1 ∧ Cond.instanceMethod yX12_works ∈ wsL_law ∧ Cond.selects (yX12_works).cls yX12_works yX12_works ∈ wsL_law := ⟨⟨aw_in_49 _ (List.mem_of_getElem? (i := 4) rfl), aw_in_0 _ (List.mem_of_getElem? (i := 5) rfl), by decide +kernel, by decide +kernel, by decide +kernel⟩, aw_in_49 _ (List.mem_of_getElem? (i := 2) rfl), aw_in_49 _ (List.mem_of_getElem? (i := 3) rfl)⟩
theorem yy_Rf_worthOf : aw_Y yX12_worthOf M_Rf_worthOf 1 ∧ Cond.instanceMethod yX12_worthOf ∈ wsL_law ∧ Cond.selects (yX12_worthOf).cls yX12_worthOf yX12_worthOf ∈ wsL_law := ⟨⟨aw_in_49 _ (List.mem_of_getElem? (i := 8) rfl), aw_in_0 _ (List.mem_of_getElem? (i := 5) rfl), by decide +kernel, by decide +kernel, by decide +kernel⟩, aw_in_49 _ (List.mem_of_getElem? (i := 6) rfl), aw_in_49 _ (List.mem_of_getElem? (i := 7) rfl)⟩
theorem yy_Rf_writeA : aw_Y yX12_writeA M_Rf_writeA 1 ∧ Cond.instanceMethod yX12_writeA ∈ wsL_law ∧ Cond.selects (yX12_writeA).cls yX12_writeA yX12_writeA ∈ wsL_law := ⟨⟨aw_in_64 _ (List.mem_of_getElem? (i := 22) rfl), aw_in_0 _ (List.mem_of_getElem? (i := 5) rfl), by decide +kernel, by decide +kernel, by decide +kernel⟩, aw_in_64 _ (List.mem_of_getElem? (i := 20) rfl), aw_in_64 _ (List.mem_of_getElem? (i := 21) rfl)⟩
theorem yy_Rf_writeEnd : aw_Y yX12_writeEnd M_Rf_writeEnd 1 ∧ Cond.instanceMethod yX12_writeEnd ∈ wsL_law ∧ Cond.selects (yX12_writeEnd).cls yX12_writeEnd yX12_writeEnd ∈ wsL_law := ⟨⟨aw_in_65 _ (List.mem_of_getElem? (i := 6) rfl), aw_in_0 _ (List.mem_of_getElem? (i := 5) rfl), by decide +kernel, by decide +kernel, by decide +kernel⟩, aw_in_65 _ (List.mem_of_getElem? (i := 4) rfl), aw_in_65 _ (List.mem_of_getElem? (i := 5) rfl)⟩
theorem yy_Rf_writeExpression : aw_Y yX12_writeExpression M_Rf_writeExpression 1 ∧ Cond.instanceMethod yX12_writeExpression ∈ wsL_law ∧ Cond.selects (yX12_writeExpression).cls yX12_writeExpression yX12_writeExpression ∈ wsL_law := ⟨⟨aw_in_64 _ (List.mem_of_getElem? (i := 18) rfl), aw_in_0 _ (List.mem_of_getElem? (i := 5) rfl), by decide +kernel, by decide +kernel, by decide +kernel⟩, aw_in_64 _ (List.mem_of_getElem? (i := 16) rfl), aw_in_64 _ (List.mem_of_getElem? (i := 17) rfl)⟩
theorem yy_Rf_writeName : aw_Y yX12_writeName M_Rf_writeName 1 ∧ Cond.instanceMethod yX12_writeName ∈ wsL_law ∧ Cond.selects (yX12_writeName).cls yX12_writeName yX12_writeName ∈ wsL_law := ⟨⟨aw_in_64 _ (List.mem_of_getElem? (i := 6) rfl), aw_in_0 _ (List.mem_of_getElem? (i := 5) rfl), by decide +kernel, by decide +kernel, by decide +kernel⟩, aw_in_64 _ (List.mem_of_getElem? (i := 4) rfl), aw_in_64 _ (List.mem_of_getElem? (i := 5) rfl)⟩
theorem yy_Rf_writeNumber : aw_Y yX12_writeNumber M_Rf_writeNumber 1 ∧ Cond.instanceMethod yX12_writeNumber ∈ wsL_law ∧ Cond.selects (yX12_writeNumber).cls yX12_writeNumber yX12_writeNumber ∈ wsL_law := ⟨⟨aw_in_64 _ (List.mem_of_getElem? (i := 14) rfl), aw_in_0 _ (List.mem_of_getElem? (i := 5) rfl), by decide +kernel, by decide +kernel, by decide +kernel⟩, aw_in_64 _ (List.mem_of_getElem? (i := 12) rfl), aw_in_64 _ (List.mem_of_getElem? (i := 13) rfl)⟩
theorem yy_Rf_writeStatement : aw_Y yX12_writeStatement M_Rf_writeStatement 2 ∧ Cond.instanceMethod yX12_writeStatement ∈ wsL_law ∧ Cond.selects (yX12_writeStatement).cls yX12_writeStatement yX12_writeStatement ∈ wsL_law := ⟨⟨aw_in_65 _ (List.mem_of_getElem? (i := 2) rfl), aw_in_0 _ (List.mem_of_getElem? (i := 5) rfl), by decide +kernel, by decide +kernel, by decide +kernel⟩, aw_in_65 _ (List.mem_of_getElem? (i := 0) rfl), aw_in_65 _ (List.mem_of_getElem? (i := 1) rfl)⟩
theorem yy_In_bitCount : aw_Y yJ6_bitCount_0f7a4 M_In_bitCount 1 ∧ Cond.static yJ6_bitCount_0f7a4 ∈ wsL_law := ⟨⟨aw_in_42 _ (List.mem_of_getElem? (i := 5) rfl), aw_in_42 _ (List.mem_of_getElem? (i := 4) rfl), by decide +kernel, by decide +kernel, by decide +kernel⟩, aw_in_42 _ (List.mem_of_getElem? (i := 3) rfl)⟩
theorem yy_Ar_fillI : aw_Y yJ7_fill_53178 M_Ar_fillI 2 ∧ Cond.static yJ7_fill_53178 ∈ wsL_law := ⟨⟨aw_in_16 _ (List.mem_of_getElem? (i := 19) rfl), aw_in_16 _ (List.mem_of_getElem? (i := 18) rfl), by decide +kernel, by decide +kernel, by decide +kernel⟩, aw_in_16 _ (List.mem_of_getElem? (i := 17) rfl)⟩
theorem yy_Ar_fillJ : aw_Y yJ7_fill_d0a16 M_Ar_fillJ 2 ∧ Cond.static yJ7_fill_d0a16 ∈ wsL_law := ⟨⟨aw_in_24 _ (List.mem_of_getElem? (i := 8) rfl), aw_in_16 _ (List.mem_of_getElem? (i := 18) rfl), by decide +kernel, by decide +kernel, by decide +kernel⟩, aw_in_24 _ (List.mem_of_getElem? (i := 7) rfl)⟩
